/-! WHAT IS MADE -/
def pm_zr {α : Type} (f : Nat → Nat → α) (n : Nat) (z : α) : Nat → Nat → α := fun b j => if b = n then z else f b j
def pm_nw (h : pm_H) (kd : Nat × Nat) : pm_H := (h.1 ++ [kd], pm_zr h.2.1 h.1.length 0, pm_zr h.2.2.1 h.1.length 0, pm_zr h.2.2.2.1 h.1.length 0, pm_zr h.2.2.2.2 h.1.length 2000)
def pm_ua (ad : pm_AD) (n q : Nat) : pm_AD := fun a => if a = n then some q else ad a
theorem pm_ua_ext (ad : pm_AD) (n q : Nat) : pm_Ext n (n + 1) ad (pm_ua ad n q) := fun a ha => by
  unfold pm_ua
  rw [if_neg (fun z => ha ⟨by omega, by omega⟩)]
theorem pm_zr_ne {α : Type} (f : Nat → Nat → α) {n b : Nat} (z : α) (h : b ≠ n) : pm_zr f n z b = f b := by
  funext j; simp [pm_zr, h]
theorem pm_ua_ok {ad : pm_AD} {n q a : Nat} (hn : n < 1000) (h : pm_ok n (.ref a)) : pm_ua ad n q a = ad a :=
  pm_ua_ext ad n q a (fun z => h.elim (fun y => absurd z.1 (Nat.not_le.mpr y)) (fun y => absurd z.2 (Nat.not_lt.mpr (Nat.le_trans (Nat.succ_le_of_lt hn) y))))
theorem pm_nw_ws {G : pm_G} {ad : pm_AD} {h : pm_H} {kd : Nat × Nat} {q : Nat} (hn : h.1.length < 1000) (hp : ∀ a k, pm_ok h.1.length (.ref (gp h a k))) :
    pm_ws G ad h ++ [(q, pm_en G (pm_ua ad h.1.length q) (pm_nw h kd) h.1.length)] = pm_ws G (pm_ua ad h.1.length q) (pm_nw h kd) := by
  have hlen : (pm_nw h kd).1.length = h.1.length + 1 := by simp [pm_nw]
  apply List.ext_getElem?
  intro j
  by_cases hj : j < h.1.length
  · rw [List.getElem?_append_left (by rw [pm_ws_len]; exact hj), pm_ws_at hj, pm_ws_at (by rw [hlen]; omega)]
    have hne : j ≠ h.1.length := by omega
    have e1 : pm_ua ad h.1.length q j = ad j := by simp [pm_ua, hne]
    rw [e1]
    have e2 : (pm_nw h kd).1.getD j (9, 0) = h.1.getD j (9, 0) := by simp [pm_nw, List.getD, List.getElem?_append_left hj]
    have hfv : ∀ c k, pm_fv (pm_ua ad h.1.length q) (pm_nw h kd) j c k = pm_fv ad h j c k := fun c k => by
      simp only [pm_fv, gi, gj, gp, pm_nw, pm_zr_ne _ _ hne]
      rw [pm_ua_ok hn (hp j k)]
    have hfp : (fun k => pm_ua ad h.1.length q (gp (pm_nw h kd) j k)) = fun k => ad (gp h j k) := by
      funext k
      simp only [gp, pm_nw, pm_zr_ne _ _ hne]
      rw [pm_ua_ok hn (hp j k)]
    have : pm_en G (pm_ua ad h.1.length q) (pm_nw h kd) j = pm_en G ad h j := by
      unfold pm_en
      rw [e2]
      simp only [pm_fs, hfv, hfp]
      simp only [gi, gj, gf, pm_nw, pm_zr_ne _ _ hne]
    rw [this]
  · by_cases hj2 : j = h.1.length
    · subst hj2
      rw [List.getElem?_append_right (by rw [pm_ws_len]; omega), pm_ws_at (by rw [hlen]; omega), pm_ws_len]
      simp [pm_ua]
    · rw [List.getElem?_eq_none (by rw [List.length_append, pm_ws_len]; simp; omega), List.getElem?_eq_none (by rw [pm_ws_len, hlen]; omega)]
theorem pm_nw_S {G : pm_G} {ad : pm_AD} {h : pm_H} {kd : Nat × Nat} {q : Nat} {H H1 : Heap} (hn : h.1.length < 1000) (hS : pm_S G ad h H) (hP : va_P (gD G) vwCl (pm_ws G ad h ++ [(q, pm_en G (pm_ua ad h.1.length q) (pm_nw h kd) h.1.length)]) H1)
    (hD : va_D (pm_A G) (pm_ws G ad h ++ [(q, pm_en G (pm_ua ad h.1.length q) (pm_nw h kd) h.1.length)])) : pm_S G (pm_ua ad h.1.length q) (pm_nw h kd) H1 := by
  have hlen : (pm_nw h kd).1.length = h.1.length + 1 := by simp [pm_nw]
  rw [pm_nw_ws hn hS.2.2.2] at hP hD
  refine ⟨hP, hD, ⟨fun a ha => ?_, fun k => ?_, by rw [hlen]; omega⟩, fun a k => ?_⟩
  · unfold pm_ua
    split
    · simp
    · exact hS.2.2.1.1 a (by rw [hlen] at ha; omega)
  · unfold pm_ua
    rw [if_neg (by omega)]
    exact hS.2.2.1.2.1 k
  · rw [hlen]
    show pm_ok (h.1.length + 1) (.ref (pm_zr h.2.2.2.2 h.1.length 2000 a k))
    unfold pm_zr
    split
    · exact Or.inr (by decide)
    · exact (hS.2.2.2 a k).le (Nat.le_succ _)
theorem pm_ft_le : ∀ (ci c : Nat), c ∈ pm_ft ci → c ≤ 3
  | 0, c, h => by simp [pm_ft] at h; omega
  | 1, c, h => by simp [pm_ft] at h; omega
  | 2, c, h => by simp [pm_ft] at h; omega
  | 3, c, h => by simp [pm_ft] at h; omega
  | 4, c, h => by simp [pm_ft] at h; omega
  | 5, c, h => by simp [pm_ft] at h; omega
  | 6, c, h => by simp [pm_ft] at h; omega
  | 7, c, h => by simp [pm_ft] at h; omega
  | 8, c, h => by simp [pm_ft] at h; omega
  | 9, c, h => by simp [pm_ft] at h; omega
  | 10, c, h => by simp [pm_ft] at h; omega
  | 11, c, h => by simp [pm_ft] at h; omega
  | n + 12, c, h => by simp [pm_ft] at h
section PMN
variable {G : pm_G} {μ : pm_M} {k : Nat × Nat} {pc : Nat} {l st : List Value} {h : pm_H}
theorem pm_2000 {G : pm_G} {n : Nat} {ad : pm_AD} (hX : pm_ad G n ad) : ad 2000 = none := by
  have := hX.2.1 1000
  simpa using this
/-- behind a making -/
theorem pm_made {kd : Nat × Nat} {k' : Nat × Nat} {pc' : Nat} {p : Program} {e : Env} {s : State} {m : MethodId} {args : Array Value} {below : List Frame} {meth : Method} {c : Code} {H H1 : Heap} {ls : Array Slot} {locs : List Loc} {ad0 ad : pm_AD} {n0 q : Nat}
    (hC : pm_Cx G μ.1 p s m args meth c) (hn0 : n0 ≤ h.1.length) (hE : pm_Ext n0 h.1.length ad0 ad) (hS : pm_S G ad h H) (hL : pm_L ad ls μ.1.2.2.1 l) (hl : ∀ v ∈ l, pm_ok h.1.length v) (hst : ∀ v ∈ st, pm_ok h.1.length v) (hn : h.1.length < 1000)
    (hP : va_P (gD G) vwCl (pm_ws G ad h ++ [(q, pm_en G (pm_ua ad h.1.length q) (pm_nw h kd) h.1.length)]) H1) (hD : va_D (pm_A G) (pm_ws G ad h ++ [(q, pm_en G (pm_ua ad h.1.length q) (pm_nw h kd) h.1.length)])) (hSS : va_S (pm_A G) s.heap H1 locs)
    (kk : Wp G μ k' pc' l (.ref h.1.length :: st) (pm_nw h kd)) :
    W p (gl G) e (pm_rm μ.2.1 μ.2.2.1 μ.2.2.2.1) s m args below meth c H1 locs k'.1 k'.2 (MQ below (pm_Q G ad0 n0 μ.2.2.2.2) args s μ.2.2.1 μ.2.2.2.1 (pm_A G)) (F0 m pc' ls (.ref q :: st.map (pm_vm ad))) := by
  have hlen : (pm_nw h kd).1.length = h.1.length + 1 := by simp [pm_nw]
  have hE' := pm_ua_ext ad h.1.length q
  have K := kk ad0 n0 (pm_ua ad h.1.length q) p e s m args below meth c H1 ls locs hC (by rw [hlen]; omega) (by rw [hlen]; exact hE.trans hE' hn0 (by omega)) (pm_nw_S hn hS hP hD) hSS (pm_L_ext hE' (by omega) hl hL) (fun v hv => (hl v hv).le (by omega)) (fun v hv => by
    rcases List.mem_cons.mp hv with z | z
    · rw [z, hlen]; exact Or.inl (Nat.lt_succ_self _)
    · exact (hst v z).le (by omega))
  rw [List.map_cons, pm_map_ext hE' (by omega) hst] at K
  have e1 : pm_vm (pm_ua ad h.1.length q) (.ref h.1.length) = .ref q := by simp [pm_vm, pm_ua, va_rf]
  rw [e1] at K
  exact K
theorem w_new {ci idx : Nat} {C : String} {T : u_T} {N : Nat} (hd : decode (mi_b μ) pc = .ok (.new idx, 3)) (hcl : vwCl[ci]? = some (C, T, N)) (h1 : Cond.classLink (mi_o μ) idx C ∈ gw) (h2 : Cond.instantiable C N ∈ gw) (h3 : Cond.initialized C ∈ gw) (hn : h.1.length < 1000) (hc : k.1 + 1 ≤ μ.2.2.1) (hsl : k.2 + N ≤ μ.2.2.2.1)
    (kk : Wp G μ (k.1 + 1, k.2 + N) (pc + 3) l (.ref h.1.length :: st) (pm_nw h (0, ci))) : Wp G μ k pc l st h := by
  intro ad0 n0 ad p e s m args below meth c H ls locs hC hn0 hE hS hSS hL hl hst
  have hT := hC.2.2.2.2.2.2.2.2
  obtain ⟨ty, -, hin, hty, hnm, hlen, htc, -⟩ := pm_call hcl
  have ht := hC.2.2.2.2.1
  have hkd : ∀ q, pm_en G (pm_ua ad h.1.length q) (pm_nw h (0, ci)) h.1.length = .inr (ci, pm_fs (pm_ua ad h.1.length q) (pm_nw h (0, ci)) h.1.length ci) := fun q => pm_en_obj (by simp [pm_nw])
  have hfs : ∀ q q', pm_fs (pm_ua ad h.1.length q) (pm_nw h (0, ci)) h.1.length ci = pm_fs (pm_ua ad h.1.length q') (pm_nw h (0, ci)) h.1.length ci := fun q q' => by
    have : ∀ c j, pm_fv (pm_ua ad h.1.length q) (pm_nw h (0, ci)) h.1.length c j = pm_fv (pm_ua ad h.1.length q') (pm_nw h (0, ci)) h.1.length c j := fun c j => by
      have e2 : (2000 : Nat) ≠ h.1.length := by omega
      simp [pm_fv, gp, pm_nw, pm_zr, pm_ua, e2, gi, gj]
    simp only [pm_fs, this]
  refine va_new (A := pm_A G) (ci := ci) (fs := pm_fs (pm_ua ad h.1.length 0) (pm_nw h (0, ci)) h.1.length ci) hC.1 hC.2.1 ht hin ty hty hC.2.2.2.1 (ht _ h1) (ht _ h2) (ht _ h3) hT.1 hS.1 hS.2.1 hSS (fun q hq => Nat.le_trans hT.2.2.1 hq) hcl (fun j hj => ?_) hc hsl hd (fun q H1 hP hD hSS' => ?_)
  · have hcj := htc j hj
    have h9 := pm_ft_le ci _ (List.mem_of_getElem? hcj)
    rw [vp_V, List.getD, pm_fs_at hcj, Option.getD_some]
    have e2 : (2000 : Nat) ≠ h.1.length := by omega
    have e3 := pm_2000 hS.2.2.1
    cases hz : ty j <;> rw [hz] at h9 <;> simp [pm_tc] at h9 <;> simp [pm_tc, pm_fv, defaultValue, pm_nw, pm_zr, gi, gj, gp, pm_ua, e2, e3, va_rf]
  · rw [hfs 0 q, ← hkd q] at hP hD
    exact pm_made hC hn0 hE hS hL hl hst hn hP hD hSS' kk
theorem w_objInit {idx b : Nat} (hd : decode (mi_b μ) pc = .ok (.invokespecial idx, 3)) (hl : Cond.methodLink (mi_o μ) idx Lib.objectInit ∈ gw) (hi : Cond.instanceMethod Lib.objectInit ∈ gw) (hcd : Cond.code Lib.objectInit ⟨#[0xb1]⟩ 1 none ∈ gw) (hb : b < h.1.length) (hr : (st.map (fun v => v.category)).sum ≤ 8) (hdd : 1 ≤ μ.2.1) (kk : Wp G μ k (pc + 3) l st h) : Wp G μ k pc l (.ref b :: st) h := by
  intro ad0 n0 ad p e s m args below meth c H ls locs hC hn0 hE hS hSS hL hl0 hst
  have ht := hC.2.2.2.2.1
  obtain ⟨r, hr1, hw⟩ := pm_cell hS hb
  have e1 : pm_vm ad (.ref b) = .ref r := by simp [pm_vm, hr1, va_rf]
  rw [List.map_cons, e1]
  have h8 := lv_room (m := m) (pc := pc) (ls := ls) (rest := (Value.ref r :: st.map (pm_vm ad))) (pm_cat (ad := ad) hr)
  exact W.objInit hC.1 hC.2.1 hC.2.2.2.1 (ht _ hl) (ht _ hi) (ht _ hcd) rfl (hL.1.trans hC.2.2.1.symm) rfl hd hdd (by
    show _ + 12 ≤ 64 * μ.2.1
    omega) (kk ad0 n0 ad p e s m args below meth c H ls locs hC hn0 hE hS hSS hL hl0 (pm_tl hst))
theorem w_newarr {at_ : ArrayType} {t N : Nat} {n : Int32} (hd : decode (mi_b μ) pc = .ok (.newarray at_, 2)) (hta : (at_ = .int ∧ t = 0) ∨ (at_ = .long ∧ t = 1) ∨ (at_ = .byte ∧ t = 2) ∨ (at_ = .float ∧ t = 3) ∨ (at_ = .boolean ∧ t = 4)) (hw : Cond.arrayClass (newarray.typeOf at_) ∈ gw) (hn0' : ¬ n < 0) (hN : n.toNatClampNeg = N) (hN2 : N ≤ 5000) (hn : h.1.length < 1000) (hc : k.1 + 1 ≤ μ.2.2.1) (hsl : k.2 + N ≤ μ.2.2.2.1)
    (kk : Wp G μ (k.1 + 1, k.2 + N) (pc + 2) l (.ref h.1.length :: st) (pm_nw h (t + 1, N))) : Wp G μ k pc l (.int n :: st) h := by
  intro ad0 n0 ad p e s m args below meth c H ls locs hC hn0 hE hS hSS hL hl hst
  have hT := hC.2.2.2.2.2.2.2.2
  have ht := hC.2.2.2.2.1
  have hz : ∀ (z : Nat) (d : Nat → Nat → Int32), pm_zr d z 0 z = fun _ => 0 := fun z d => by funext j; simp [pm_zr]
  have hzl : ∀ (z : Nat) (d : Nat → Nat → Int64), pm_zr d z 0 z = fun _ => 0 := fun z d => by funext j; simp [pm_zr]
  have hzf : ∀ (z : Nat) (d : Nat → Nat → UInt32), pm_zr d z 0 z = fun _ => 0 := fun z d => by funext j; simp [pm_zr]
  have hkd : (pm_nw h (t + 1, N)).1[h.1.length]? = some (t + 1, N) := by simp [pm_nw]
  rcases hta with ⟨rfl, rfl⟩ | ⟨rfl, rfl⟩ | ⟨rfl, rfl⟩ | ⟨rfl, rfl⟩ | ⟨rfl, rfl⟩
  · refine va_newa (A := pm_A G) hC.1 hC.2.1 (ht _ hw) rfl hT.1 hS.1 hS.2.1 hSS (fun q hq => Nat.le_trans hT.2.2.1 hq) (a0 := (N, .inl (fun _ => 0))) (fun cA => rfl) hn0' hN (by simp [componentBytes, newarray.typeOf]; omega) hc hsl hd (fun q cA H1 hK hP hD hSS' => ?_)
    have e1 : cA = gA G 0 := Option.some.inj ((hK.2 6 _ rfl).2.symm.trans (hT.1.2 0 _ rfl).2)
    have e2 : pm_en G (pm_ua ad h.1.length q) (pm_nw h (0 + 1, N)) h.1.length = .inl (cA, N, .inl (fun _ => 0)) := by rw [pm_en_a hkd, e1]; simp only [gi, pm_nw, hz]
    rw [← e2] at hP hD
    exact pm_made hC hn0 hE hS hL hl (pm_tl hst) hn hP hD hSS' kk
  · refine va_newa (A := pm_A G) hC.1 hC.2.1 (ht _ hw) rfl hT.1 hS.1 hS.2.1 hSS (fun q hq => Nat.le_trans hT.2.2.1 hq) (a0 := (N, .inr (.inl (fun _ => 0)))) (fun cA => rfl) hn0' hN (by simp [componentBytes, newarray.typeOf]; omega) hc hsl hd (fun q cA H1 hK hP hD hSS' => ?_)
    have e1 : cA = gA G 1 := Option.some.inj ((hK.2 6 _ rfl).2.symm.trans (hT.1.2 1 _ rfl).2)
    have e2 : pm_en G (pm_ua ad h.1.length q) (pm_nw h (1 + 1, N)) h.1.length = .inl (cA, N, .inr (.inl (fun _ => 0))) := by rw [pm_en_a hkd, e1]; simp only [gj, pm_nw, hzl]
    rw [← e2] at hP hD
    exact pm_made hC hn0 hE hS hL hl (pm_tl hst) hn hP hD hSS' kk
  · refine va_newa (A := pm_A G) hC.1 hC.2.1 (ht _ hw) rfl hT.1 hS.1 hS.2.1 hSS (fun q hq => Nat.le_trans hT.2.2.1 hq) (a0 := (N, .inl (fun _ => 0))) (fun cA => rfl) hn0' hN (by simp [componentBytes, newarray.typeOf]; omega) hc hsl hd (fun q cA H1 hK hP hD hSS' => ?_)
    have e1 : cA = gA G 2 := Option.some.inj ((hK.2 6 _ rfl).2.symm.trans (hT.1.2 2 _ rfl).2)
    have e2 : pm_en G (pm_ua ad h.1.length q) (pm_nw h (2 + 1, N)) h.1.length = .inl (cA, N, .inl (fun _ => 0)) := by rw [pm_en_a hkd, e1]; simp only [gi, pm_nw, hz]
    rw [← e2] at hP hD
    exact pm_made hC hn0 hE hS hL hl (pm_tl hst) hn hP hD hSS' kk
  · refine va_newa (A := pm_A G) hC.1 hC.2.1 (ht _ hw) rfl hT.1 hS.1 hS.2.1 hSS (fun q hq => Nat.le_trans hT.2.2.1 hq) (a0 := (N, .inr (.inr (.inl (fun _ => 0))))) (fun cA => rfl) hn0' hN (by simp [componentBytes, newarray.typeOf]; omega) hc hsl hd (fun q cA H1 hK hP hD hSS' => ?_)
    have e1 : cA = gA G 3 := Option.some.inj ((hK.2 6 _ rfl).2.symm.trans (hT.1.2 3 _ rfl).2)
    have e2 : pm_en G (pm_ua ad h.1.length q) (pm_nw h (3 + 1, N)) h.1.length = .inl (cA, N, .inr (.inr (.inl (fun _ => 0)))) := by rw [pm_en_a hkd, e1]; simp only [gf, pm_nw, hzf]
    rw [← e2] at hP hD
    exact pm_made hC hn0 hE hS hL hl (pm_tl hst) hn hP hD hSS' kk
  · refine va_newa (A := pm_A G) hC.1 hC.2.1 (ht _ hw) rfl hT.1 hS.1 hS.2.1 hSS (fun q hq => Nat.le_trans hT.2.2.1 hq) (a0 := (N, .inl (fun _ => 0))) (fun cA => rfl) hn0' hN (by simp [componentBytes, newarray.typeOf]; omega) hc hsl hd (fun q cA H1 hK hP hD hSS' => ?_)
    have e1 : cA = gA G 4 := Option.some.inj ((hK.2 6 _ rfl).2.symm.trans (hT.1.2 4 _ rfl).2)
    have e2 : pm_en G (pm_ua ad h.1.length q) (pm_nw h (4 + 1, N)) h.1.length = .inl (cA, N, .inl (fun _ => 0)) := by rw [pm_en_a hkd, e1]; simp only [gi, pm_nw, hz]
    rw [← e2] at hP hD
    exact pm_made hC hn0 hE hS hL hl (pm_tl hst) hn hP hD hSS' kk
theorem w_anew {idx N : Nat} {n : Int32} (hd : decode (mi_b μ) pc = .ok (.anewarray idx, 3)) (h1 : Cond.classLink (mi_o μ) idx "RaisedQueue$Forest" ∈ gw) (hn0' : ¬ n < 0) (hN : n.toNatClampNeg = N) (hN2 : N ≤ 5000) (hn : h.1.length < 1000) (hc : k.1 + 1 ≤ μ.2.2.1) (hsl : k.2 + N ≤ μ.2.2.2.1)
    (kk : Wp G μ (k.1 + 1, k.2 + N) (pc + 3) l (.ref h.1.length :: st) (pm_nw h (6, N))) : Wp G μ k pc l (.int n :: st) h := by
  intro ad0 n0 ad p e s m args below meth c H ls locs hC hn0 hE hS hSS hL hl hst
  have hT := hC.2.2.2.2.2.2.2.2
  have ht := hC.2.2.2.2.1
  have hkd : (pm_nw h (6, N)).1[h.1.length]? = some (5 + 1, N) := by simp [pm_nw]
  refine va_newq (A := pm_A G) hC.1 hC.2.1 hC.2.2.2.1 (ht _ h1) hT.2.2.2.2 hT.1 hS.1 hS.2.1 hSS (fun q hq => Nat.le_trans hT.2.2.1 hq) hn0' hN (by omega) hc hsl hd (fun q cA H1 hK hP hD hSS' => ?_)
  have e1 : cA = gA G 5 := by
    obtain ⟨-, -, -, -, -, z1⟩ := (hK.2 6 _ rfl).2
    obtain ⟨-, -, -, -, -, z2⟩ := (hT.1.2 5 _ rfl).2
    exact Option.some.inj (z1.symm.trans z2)
  have e2 : pm_en G (pm_ua ad h.1.length q) (pm_nw h (6, N)) h.1.length = .inl (cA, N, .inr (.inr (.inr (.inr (fun _ => none))))) := by
    rw [pm_en_a hkd, e1]
    have e3 : (2000 : Nat) ≠ h.1.length := by omega
    have e4 := pm_2000 hS.2.2.1
    have e5 : (fun j => pm_ua ad h.1.length q (gp (pm_nw h (6, N)) h.1.length j)) = fun _ => none := by
      funext j
      have e6 : gp (pm_nw h (6, N)) h.1.length j = 2000 := by
        show pm_zr h.2.2.2.2 h.1.length 2000 h.1.length j = 2000
        unfold pm_zr
        rw [if_pos rfl]
      rw [e6]
      unfold pm_ua
      rw [if_neg e3]
      exact e4
    show (Sum.inl (gA G 5, N, Sum.inr (Sum.inr (Sum.inr (Sum.inr (fun j => pm_ua ad h.1.length q (gp (pm_nw h (6, N)) h.1.length j)))))) : va_E) = _
    rw [e5]
  rw [← e2] at hP hD
  exact pm_made hC hn0 hE hS hL hl (pm_tl hst) hn hP hD hSS' kk
end PMN
