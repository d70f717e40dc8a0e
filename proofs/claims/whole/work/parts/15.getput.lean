/-! FIELDS READ AND WRITTEN -/
def pm_fw (h : pm_H) (a c q : Nat) : Value := match c with
  | 1 => .long (gj h a q)
  | 2 => .ref (gp h a q)
  | _ => .int (gi h a q)
theorem pm_fw_vm (ad : pm_AD) (h : pm_H) (a c q : Nat) : pm_vm ad (pm_fw h a c q) = pm_fv ad h a c q := by
  match c with
  | 0 => rfl
  | 1 => rfl
  | 2 => rfl
  | n + 3 => rfl
theorem pm_en_obj {G : pm_G} {ad : pm_AD} {h : pm_H} {a ci : Nat} (hk : h.1[a]? = some (0, ci)) : pm_en G ad h a = .inr (ci, pm_fs ad h a ci) := by
  simp [pm_en, List.getD, hk]
theorem pm_lt {h : pm_H} {a : Nat} {q : Nat × Nat} (hk : h.1[a]? = some q) : a < h.1.length := (List.getElem?_eq_some_iff.mp hk).1
/-- a cell that stands, in the heap -/
theorem pm_cell {G : pm_G} {ad : pm_AD} {h : pm_H} {H : Heap} {a : Nat} (hS : pm_S G ad h H) (ha : a < h.1.length) : ∃ r, ad a = some r ∧ (pm_ws G ad h)[a]? = some (r, pm_en G ad h a) := by
  have h1 := hS.2.2.1.1 a ha
  cases hz : ad a with
  | none => exact absurd hz h1
  | some r => exact ⟨r, rfl, by rw [pm_ws_at ha, hz]; rfl⟩
theorem pm_fs_at {ad : pm_AD} {h : pm_H} {a ci q c : Nat} (hc : (pm_ft ci)[q]? = some c) : (pm_fs ad h a ci)[q]? = some (pm_fv ad h a c q) := by
  simp [pm_fs, List.getElem?_mapIdx, hc]
theorem pm_fs_len (ad : pm_AD) (h : pm_H) (a ci : Nat) : (pm_fs ad h a ci).length = (pm_ft ci).length := by simp [pm_fs]
theorem pm_fs_set {ad : pm_AD} {h h' : pm_H} {a ci q c : Nat} (hc : (pm_ft ci)[q]? = some c) (ho : ∀ j d, j ≠ q → pm_fv ad h' a d j = pm_fv ad h a d j) : (pm_fs ad h a ci).set q (pm_fv ad h' a c q) = pm_fs ad h' a ci := by
  have hq : q < (pm_ft ci).length := (List.getElem?_eq_some_iff.mp hc).1
  apply List.ext_getElem?
  intro j
  by_cases hj : j = q
  · subst hj
    rw [List.getElem?_set_self (by rw [pm_fs_len]; exact hq), pm_fs_at hc]
  · rw [List.getElem?_set_ne (Ne.symm hj)]
    cases hd : (pm_ft ci)[j]? with
    | none => simp [pm_fs, List.getElem?_mapIdx, hd]
    | some d => rw [pm_fs_at hd, pm_fs_at hd, ho j d hj]
theorem pm_en_eq {G : pm_G} {ad : pm_AD} {h h' : pm_H} {b : Nat} (hk : h'.1 = h.1) (hi : gi h' b = gi h b) (hj : gj h' b = gj h b) (hf : gf h' b = gf h b) (hp : gp h' b = gp h b) : pm_en G ad h' b = pm_en G ad h b := by
  have hfv : ∀ c k, pm_fv ad h' b c k = pm_fv ad h b c k := fun c k => by simp only [pm_fv, hi, hj, hp]
  unfold pm_en
  rw [hk]
  simp only [hi, hj, hf, hp, pm_fs, hfv]
section PMG
variable {G : pm_G} {μ : pm_M} {k : Nat × Nat} {pc : Nat} {l st : List Value} {h : pm_H}
theorem w_get {a ci q c idx : Nat} (hd : decode (mi_b μ) pc = .ok (.getfield idx, 3)) (hlk : pm_lk (mi_o μ) idx ci q) (hk : h.1[a]? = some (0, ci)) (hc : (pm_ft ci)[q]? = some c) (kk : Wp G μ k (pc + 3) l (pm_fw h a c q :: st) h) : Wp G μ k pc l (.ref a :: st) h := by
  intro ad0 n0 ad p e s m args below meth c0 H ls locs hC hn0 hE hS hSS hL hl hst
  obtain ⟨C, T, N, hcl, hq, hl2⟩ := hlk
  obtain ⟨ty, -, hin, -, -, -, -, -⟩ := pm_call hcl
  obtain ⟨r, hr, hw⟩ := pm_cell hS (pm_lt hk)
  rw [pm_en_obj hk] at hw
  have hv := pm_fs_at (ad := ad) (h := h) (a := a) hc
  have K := kk ad0 n0 ad p e s m args below meth c0 H ls locs hC hn0 hE hS hSS hL hl (fun v hv => by
    rcases List.mem_cons.mp hv with z | z
    · rw [z]
      unfold pm_fw
      split
      · trivial
      · exact hS.2.2.2 a q
      · trivial
    · exact pm_tl hst v z)
  rw [List.map_cons, pm_fw_vm] at K
  have ht := hC.2.2.2.2.2.2.2.2
  have e1 : pm_vm ad (.ref a) = .ref r := by simp [pm_vm, hr, va_rf]
  rw [List.map_cons, e1]
  rcases hl2 with hl2 | ⟨host, hl2⟩
  · exact va_get hC.1 hC.2.1 hC.2.2.2.2.1 hin hC.2.2.2.1 ht.1 hS.1 a hw hcl q hq (hC.2.2.2.2.1 _ hl2) (fun _ z => z) hv hd K
  · exact va_getN hC.1 hC.2.1 hC.2.2.2.2.1 hin hC.2.2.2.1 ht.1 hS.1 a hw hcl q hq ((ht.2.2.2.1 _ hl2).use rfl) (fun _ z => z) hv hd K
theorem w_geti {a ci q idx : Nat} (hd : decode (mi_b μ) pc = .ok (.getfield idx, 3)) (hlk : pm_lk (mi_o μ) idx ci q) (hk : h.1[a]? = some (0, ci)) (hc : (pm_ft ci)[q]? = some 0) (kk : Wp G μ k (pc + 3) l (.int (gi h a q) :: st) h) : Wp G μ k pc l (.ref a :: st) h := w_get hd hlk hk hc kk
theorem w_getz {a ci q idx : Nat} (hd : decode (mi_b μ) pc = .ok (.getfield idx, 3)) (hlk : pm_lk (mi_o μ) idx ci q) (hk : h.1[a]? = some (0, ci)) (hc : (pm_ft ci)[q]? = some 3) (kk : Wp G μ k (pc + 3) l (.int (gi h a q) :: st) h) : Wp G μ k pc l (.ref a :: st) h := w_get hd hlk hk hc kk
theorem w_getl {a ci q idx : Nat} (hd : decode (mi_b μ) pc = .ok (.getfield idx, 3)) (hlk : pm_lk (mi_o μ) idx ci q) (hk : h.1[a]? = some (0, ci)) (hc : (pm_ft ci)[q]? = some 1) (kk : Wp G μ k (pc + 3) l (.long (gj h a q) :: st) h) : Wp G μ k pc l (.ref a :: st) h := w_get hd hlk hk hc kk
theorem w_getp {a ci q idx : Nat} (hd : decode (mi_b μ) pc = .ok (.getfield idx, 3)) (hlk : pm_lk (mi_o μ) idx ci q) (hk : h.1[a]? = some (0, ci)) (hc : (pm_ft ci)[q]? = some 2) (kk : Wp G μ k (pc + 3) l (.ref (gp h a q) :: st) h) : Wp G μ k pc l (.ref a :: st) h := w_get hd hlk hk hc kk
def pm_isF (ci q : Nat) : Bool := match vwCl[ci]? with
  | some (_, T, _) => (T q).2.2.2
  | none => true
def pm_cn (ci : Nat) : String := match vwCl[ci]? with
  | some (C, _, _) => C
  | none => ""
theorem pm_put {a ci q c idx : Nat} {v : Value} {h' : pm_H} (hd : decode (mi_b μ) pc = .ok (.putfield idx, 3)) (hlk : pm_lk (mi_o μ) idx ci q) (hk : h.1[a]? = some (0, ci)) (hc : (pm_ft ci)[q]? = some c)
    (hf : pm_isF ci q = false ∨ (μ.1.1.name = "<init>" ∧ mi_o μ = pm_cn ci ∧ pm_lk0 (mi_o μ) idx ci q)) (hfit : ∀ (ad : pm_AD) (ty : FieldType), pm_tc ty = c → narrow ty (pm_vm ad v) = pm_vm ad v ∧ fits ty (pm_vm ad v) = true)
    (h1 : h'.1 = h.1) (hv : ∀ ad, pm_vm ad v = pm_fv ad h' a c q) (ho : ∀ ad j d, j ≠ q → pm_fv ad h' a d j = pm_fv ad h a d j)
    (hb : ∀ b, b ≠ a → gi h' b = gi h b ∧ gj h' b = gj h b ∧ gf h' b = gf h b ∧ gp h' b = gp h b) (hp : ∀ b j n, pm_ok n v → pm_ok n (.ref (gp h b j)) → pm_ok n (.ref (gp h' b j))) (kk : Wp G μ k (pc + 3) l st h') : Wp G μ k pc l (v :: .ref a :: st) h := by
  intro ad0 n0 ad p e s m args below meth c0 H ls locs hC hn0 hE hS hSS hL hl hst
  obtain ⟨C, T, N, hcl, hq, hl2⟩ := hlk
  obtain ⟨ty, -, hin, hty, hnm, hlen, htc, hcn⟩ := pm_call hcl
  obtain ⟨r, hr, hw⟩ := pm_cell hS (pm_lt hk)
  rw [pm_en_obj hk] at hw
  have ht := hC.2.2.2.2.2.2.2.2
  have e1 : pm_vm ad (.ref a) = .ref r := by simp [pm_vm, hr, va_rf]
  have htq : pm_tc (ty q) = c := by
    have := htc q hq
    rw [hc] at this
    exact (Option.some.inj this).symm
  have hft := hfit ad (ty q) htq
  have hd2 := hty q hq
  have hlt : q < (pm_fs ad h a ci).length := by rw [pm_fs_len, hlen]; exact hq
  have eqw : (pm_ws G ad h).set a (r, .inr (ci, (pm_fs ad h a ci).set q (pm_vm ad v))) = pm_ws G ad h' := by
    have h9 : (r, (Sum.inr (ci, (pm_fs ad h a ci).set q (pm_vm ad v)) : va_E)) = ((ad a).getD 0, .inr (ci, (pm_fs ad h a ci).set q (pm_vm ad v))) := by rw [hr]; rfl
    rw [h9]
    refine pm_ws_set h1 ?_ (fun b hb2 => ?_)
    · rw [pm_en_obj (by rw [h1]; exact hk), hv ad, pm_fs_set hc (ho ad)]
    · obtain ⟨b1, b2, b3, b4⟩ := hb b hb2
      exact pm_en_eq h1 b1 b2 b3 b4
  have K : ∀ (H1 : Heap) (locs1 : List Loc), va_P (gD G) vwCl (pm_ws G ad h') H1 → va_D (pm_A G) (pm_ws G ad h') → va_S (pm_A G) s.heap H1 locs1 → _ := fun H1 locs1 q1 q2 q3 => kk ad0 n0 ad p e s m args below meth c0 H1 ls locs1 hC (by rw [h1]; exact hn0) (by rw [h1]; exact hE) ⟨q1, q2, by rw [h1]; exact hS.2.2.1, fun b j => by
      rw [h1]
      exact hp b j _ (hst _ List.mem_cons_self) (hS.2.2.2 b j)⟩ q3 hL (by rw [h1]; exact hl) (by rw [h1]; exact pm_tl (pm_tl hst))
  rw [← eqw] at K
  rw [List.map_cons, List.map_cons, e1]
  have hfin : (T q).2.2.2 = pm_isF ci q := by simp [pm_isF, hcl]
  have hcn2 : C = pm_cn ci := by simp [pm_cn, hcl]
  rcases hf with hf | ⟨hf1, hf2, hf3⟩
  · rcases hl2 with hl2 | ⟨host, hl2⟩
    · exact va_put hC.1 hC.2.1 hC.2.2.2.2.1 hin ty hty hnm hC.2.2.2.1 ht.1 hS.1 hS.2.1 hSS a hw hcl q hq (hC.2.2.2.2.1 _ hl2) (fun _ z => z) (hfin.trans hf) hd2 hft.1 hft.2 hlt hd K
    · exact va_putN hC.1 hC.2.1 hC.2.2.2.2.1 hin ty hty hnm hC.2.2.2.1 ht.1 hS.1 hS.2.1 hSS a hw hcl q hq ((ht.2.2.2.1 _ hl2).use rfl) (fun _ z => z) (hfin.trans hf) hd2 hft.1 hft.2 hlt hd K
  · obtain ⟨C', T', N', hcl', hq', hl3⟩ := hf3
    cases hcl.symm.trans hcl'
    cases hz : (T q).2.2.2 with
    | false => exact va_put hC.1 hC.2.1 hC.2.2.2.2.1 hin ty hty hnm hC.2.2.2.1 ht.1 hS.1 hS.2.1 hSS a hw hcl q hq (hC.2.2.2.2.1 _ hl3) (fun _ z => z) hz hd2 hft.1 hft.2 hlt hd K
    | true => exact va_putF hC.1 hC.2.1 hC.2.2.2.2.1 hin ty hty hnm hC.2.2.2.1 ht.1 hS.1 hS.2.1 hSS a hw hcl q hq (hC.2.2.2.2.1 _ hl3) (fun _ z => z) hz (hC.2.2.2.2.2.2.2.1.trans hf1) ((hcn q hq).trans (hcn2.trans hf2.symm)) hd2 hft.1 hft.2 hlt hd K
theorem w_puti {a ci q idx : Nat} {x : Int32} (hd : decode (mi_b μ) pc = .ok (.putfield idx, 3)) (hlk : pm_lk (mi_o μ) idx ci q) (hk : h.1[a]? = some (0, ci)) (hc : (pm_ft ci)[q]? = some 0)
    (hf : pm_isF ci q = false ∨ (μ.1.1.name = "<init>" ∧ mi_o μ = pm_cn ci ∧ pm_lk0 (mi_o μ) idx ci q)) (kk : Wp G μ k (pc + 3) l st (si h a q x)) : Wp G μ k pc l (.int x :: .ref a :: st) h :=
  pm_put (h' := si h a q x) hd hlk hk hc hf (fun ad ty ht => by cases ty <;> simp [pm_tc] at ht <;> exact ⟨rfl, rfl⟩) rfl (fun ad => by simp [pm_vm, pm_fv, pm_u, si, sl, sf, sp, gi, gj, gf, gp]) (fun ad j d hj => by simp [pm_fv, pm_u, hj, si, sl, sf, sp, gi, gj, gf, gp]) (fun b hb => ⟨pm_u_ne _ _ _ hb, rfl, rfl, rfl⟩) (fun b j n _ z => z) kk
theorem w_putz {a ci q idx : Nat} {x : Int32} (hd : decode (mi_b μ) pc = .ok (.putfield idx, 3)) (hlk : pm_lk (mi_o μ) idx ci q) (hk : h.1[a]? = some (0, ci)) (hc : (pm_ft ci)[q]? = some 3)
    (hf : pm_isF ci q = false ∨ (μ.1.1.name = "<init>" ∧ mi_o μ = pm_cn ci ∧ pm_lk0 (mi_o μ) idx ci q)) (hx : x = 0 ∨ x = 1) (kk : Wp G μ k (pc + 3) l st (si h a q x)) : Wp G μ k pc l (.int x :: .ref a :: st) h :=
  pm_put (h' := si h a q x) hd hlk hk hc hf (fun ad ty ht => by cases ty <;> simp [pm_tc] at ht <;> (rcases hx with rfl | rfl <;> exact ⟨rfl, rfl⟩)) rfl (fun ad => by simp [pm_vm, pm_fv, pm_u, si, sl, sf, sp, gi, gj, gf, gp]) (fun ad j d hj => by simp [pm_fv, pm_u, hj, si, sl, sf, sp, gi, gj, gf, gp]) (fun b hb => ⟨pm_u_ne _ _ _ hb, rfl, rfl, rfl⟩) (fun b j n _ z => z) kk
theorem w_putl {a ci q idx : Nat} {x : Int64} (hd : decode (mi_b μ) pc = .ok (.putfield idx, 3)) (hlk : pm_lk (mi_o μ) idx ci q) (hk : h.1[a]? = some (0, ci)) (hc : (pm_ft ci)[q]? = some 1)
    (hf : pm_isF ci q = false ∨ (μ.1.1.name = "<init>" ∧ mi_o μ = pm_cn ci ∧ pm_lk0 (mi_o μ) idx ci q)) (kk : Wp G μ k (pc + 3) l st (sl h a q x)) : Wp G μ k pc l (.long x :: .ref a :: st) h :=
  pm_put (h' := sl h a q x) hd hlk hk hc hf (fun ad ty ht => by cases ty <;> simp [pm_tc] at ht <;> exact ⟨rfl, rfl⟩) rfl (fun ad => by simp [pm_vm, pm_fv, pm_u, si, sl, sf, sp, gi, gj, gf, gp]) (fun ad j d hj => by simp [pm_fv, pm_u, hj, si, sl, sf, sp, gi, gj, gf, gp]) (fun b hb => ⟨rfl, pm_u_ne _ _ _ hb, rfl, rfl⟩) (fun b j n _ z => z) kk
theorem w_putp {a ci q idx b : Nat} (hd : decode (mi_b μ) pc = .ok (.putfield idx, 3)) (hlk : pm_lk (mi_o μ) idx ci q) (hk : h.1[a]? = some (0, ci)) (hc : (pm_ft ci)[q]? = some 2)
    (hf : pm_isF ci q = false ∨ (μ.1.1.name = "<init>" ∧ mi_o μ = pm_cn ci ∧ pm_lk0 (mi_o μ) idx ci q)) (kk : Wp G μ k (pc + 3) l st (sp h a q b)) : Wp G μ k pc l (.ref b :: .ref a :: st) h :=
  pm_put (h' := sp h a q b) hd hlk hk hc hf (fun ad ty ht => by
    have hz : (∃ r, pm_vm ad (.ref b) = .ref r) ∨ pm_vm ad (.ref b) = .null := by
      show (∃ r, va_rf (ad b) = .ref r) ∨ va_rf (ad b) = .null
      cases ad b with
      | none => exact Or.inr rfl
      | some r => exact Or.inl ⟨r, rfl⟩
    cases ty <;> simp [pm_tc] at ht <;> (rcases hz with ⟨r, hz⟩ | hz <;> rw [hz] <;> exact ⟨rfl, rfl⟩)) rfl (fun ad => by simp [pm_vm, pm_fv, pm_u, si, sl, sf, sp, gi, gj, gf, gp]) (fun ad j d hj => by simp [pm_fv, pm_u, hj, si, sl, sf, sp, gi, gj, gf, gp]) (fun b2 hb => ⟨rfl, rfl, rfl, pm_u_ne _ _ _ hb⟩) (fun b2 j n hv z => by
      show pm_ok n (.ref (pm_u (gp h) a q b b2 j))
      unfold pm_u
      split
      · split
        · exact hv
        · exact z
      · exact z) kk
end PMG
