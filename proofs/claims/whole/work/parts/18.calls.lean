/-! CALLS; WHAT IS MADE -/
section PMK
variable {G : pm_G} {μ : pm_M} {k : Nat × Nat} {pc : Nat} {l st : List Value} {h : pm_H}
theorem gw_good {w : Cond} (h : w ∈ gw) : (w.onTables && w.keeps) = true ∨ ∃ ty, w = .arrayClass ty := good_of_word (List.mem_filter.mp h).2
theorem gw_in {ws : List Cond} (h : ∀ w ∈ ws, w ∈ gw) : GoodIn gw ws := fun w hw => ⟨h w hw, gw_good (h w hw)⟩
/-- what the tables say of a method that is called: its code, its class, how many arguments -/
def pm_mt (mi : pm_I) (n : Nat) : Prop := Cond.code mi.1 mi.2.1 mi.2.2.1 mi.2.2.2 ∈ gw ∧ Cond.initialized mi.1.cls ∈ gw ∧ mi.1.cls ≠ "java/lang/invoke/MethodHandle" ∧ mi.1.cls ≠ "java/lang/invoke/VarHandle" ∧ (parseMethodDescriptor mi.1.desc).map (fun d => d.parameters.length) = some n ∧ mi.2.2.1 ≤ 45
theorem pm_wsO_in {mi : pm_I} {n : Nat} (h : pm_mt mi n) : ∀ w ∈ pm_wsO mi, w ∈ gw := fun w hw => by
  rcases List.mem_cons.mp hw with q | q
  · rw [q]; exact h.1
  · exact q
theorem pm_cont {p : Program} {e : Env} {R : Room} {s : State} {m : MethodId} {args a : Array Value} {below : List Frame} {meth : Method} {c : Code} {H : Heap} {ls : Array Slot} {locs : List Loc} {cells slots mc ms n : Nat} {Q : State → Prop} {st0 rest : List Value} {ad : pm_AD} {post : pm_PT}
    (hr : va_Run p (gl G) e R s m args below meth c H locs cells slots mc ms (F0 m pc ls st0) rest (pm_Q G ad n post a) (pm_A G)) (hS : va_S (pm_A G) s.heap H locs)
    (kk : ∀ (v : Option Value) (ad' : pm_AD) (h' : pm_H) (H1 : Heap) (locs1 : List Loc), post v h' → n ≤ h'.1.length → pm_Ext n h'.1.length ad ad' → (∀ w, v = some w → pm_ok h'.1.length w) → pm_S G ad' h' H1 → va_S (pm_A G) s.heap H1 locs1 →
      W p (gl G) e R s m args below meth c H1 locs1 (cells + mc) (slots + ms) Q (F0 m (pc + 3) ls ((v.map (pm_vm ad')).toList ++ rest))) : W p (gl G) e R s m args below meth c H locs cells slots Q (F0 m pc ls st0) := by
  intro T hT X
  obtain ⟨v, st₀, t, T', L, h0, X', hL, e1, e2, ⟨⟨v', ad', h', hv, hp, hn, hE, hok, hS'⟩, hz, hk⟩, st⟩ := hr T hT X
  cases hv
  rw [h0] at hz hk
  obtain ⟨t2, a1, b1⟩ := kk v' ad' h' T'.heap (locs ++ L) hp hn hE hok (by rw [e1]; exact hS')
    ⟨Nat.le_trans hS.1 (by rw [e1]; exact hz), fun q h1 h2 => by rw [e1, hk q (Nat.lt_of_lt_of_le h1 hS.1) h2]; exact hS.2.1 q h1 h2, fun q hq => by
      rcases List.mem_append.mp hq with h | h
      · exact hS.2.2 q h
      · exact hL q h⟩ T' rfl X'
  exact ⟨t2, st t2 a1, b1⟩
theorem pm_vm_ext {n n' : Nat} {ad ad' : pm_AD} {v : Value} (hE : pm_Ext n n' ad ad') (hn : n' ≤ 1000) (h : pm_ok n v) : pm_vm ad' v = pm_vm ad v := by
  cases v with
  | ref a => 
    show va_rf (ad' a) = va_rf (ad a)
    rw [hE a (fun q => h.elim (fun z => absurd q.1 (Nat.not_le.mpr z)) (fun z => absurd q.2 (Nat.not_lt.mpr (Nat.le_trans hn z))))]
  | _ => rfl
theorem pm_map_ext {n n' : Nat} {ad ad' : pm_AD} {st : List Value} (hE : pm_Ext n n' ad ad') (hn : n' ≤ 1000) (h : ∀ v ∈ st, pm_ok n v) : st.map (pm_vm ad') = st.map (pm_vm ad) := List.map_congr_left fun v hv => pm_vm_ext hE hn (h v hv)
theorem pm_L_ext {n n' N : Nat} {ad ad' : pm_AD} {ls : Array Slot} {l : List Value} (hE : pm_Ext n n' ad ad') (hn : n' ≤ 1000) (h : ∀ v ∈ l, pm_ok n v) (hL : pm_L ad ls N l) : pm_L ad' ls N l := ⟨hL.1, hL.2.1, hL.2.2.1, fun i v h1 h2 => by rw [pm_vm_ext hE hn (h v (List.mem_of_getElem? h1))]; exact hL.2.2.2 i v h1 h2⟩
theorem pm_Ext.trans {n0 n n' : Nat} {a b c : pm_AD} (h1 : pm_Ext n0 n a b) (h2 : pm_Ext n n' b c) (hn : n0 ≤ n) (hn' : n ≤ n') : pm_Ext n0 n' a c := fun x hx => by rw [h2 x (fun q => hx ⟨by omega, q.2⟩), h1 x (fun q => hx ⟨q.1, by omega⟩)]
/-- behind a call -/
theorem pm_back {mc' ms' : Nat} {post : pm_PT} {p : Program} {e : Env} {s : State} {m : MethodId} {args a : Array Value} {below : List Frame} {meth : Method} {c : Code} {H : Heap} {ls : Array Slot} {locs : List Loc} {ad0 ad : pm_AD} {n0 : Nat} {st0 : List Value}
    (hC : pm_Cx G μ.1 p s m args meth c) (hn0 : n0 ≤ h.1.length) (hE : pm_Ext n0 h.1.length ad0 ad) (hSS : va_S (pm_A G) s.heap H locs) (hL : pm_L ad ls μ.1.2.2.1 l) (hl : ∀ v ∈ l, pm_ok h.1.length v) (hst : ∀ v ∈ st, pm_ok h.1.length v)
    (hr : va_Run p (gl G) e (pm_rm μ.2.1 μ.2.2.1 μ.2.2.2.1) s m args below meth c H locs k.1 k.2 mc' ms' (F0 m pc ls st0) (st.map (pm_vm ad)) (pm_Q G ad h.1.length post a) (pm_A G))
    (kk : ∀ v h', post v h' → Wp G μ (k.1 + mc', k.2 + ms') (pc + 3) l (v.toList ++ st) h') :
    W p (gl G) e (pm_rm μ.2.1 μ.2.2.1 μ.2.2.2.1) s m args below meth c H locs k.1 k.2 (MQ below (pm_Q G ad0 n0 μ.2.2.2.2) args s μ.2.2.1 μ.2.2.2.1 (pm_A G)) (F0 m pc ls st0) := by
  refine pm_cont hr hSS fun v ad' h' H1 locs1 hp hn hE' hok hS' hSS' => ?_
  have h10 := hS'.2.2.1.2.2
  have K := kk v h' hp ad0 n0 ad' p e s m args below meth c H1 ls locs1 hC (Nat.le_trans hn0 hn) (hE.trans hE' hn0 hn) hS' hSS' (pm_L_ext hE' h10 hl hL) (fun v hv => (hl v hv).le hn) (fun w hw => by
    rcases List.mem_append.mp hw with q | q
    · cases v with
      | none => cases q
      | some x => simp at q; rw [q]; exact hok x rfl
    · exact (hst w q).le hn)
  rw [List.map_append, pm_map_ext hE' h10 hst] at K
  cases v with
  | none => exact K
  | some x => exact K
theorem pm_blind {ad : pm_AD} {av : List Value} : FrameBlind (va_Pc av (fun U => pm_S G ad h U.heap ∧ pm_T G U U.heap)) := fun a U g mk q => ⟨q.1, q.2.1, pm_T.same (u := U) (U := U.calling g mk a) (H := U.heap) rfl q.2.2⟩
theorem pm_pre {ad : pm_AD} {av : List Value} {s U : State} {H : Heap} {locs : List Loc} (hS : pm_S G ad h H) (hT : pm_T G s s.heap) (hSS : va_S (pm_A G) s.heap H locs) (hU : U.heap = H) (hW : s.WarmedH U.vm) : va_Pc av (fun U => pm_S G ad h U.heap ∧ pm_T G U U.heap) av.toArray U :=
  ⟨rfl, by rw [hU]; exact hS, by rw [hU]; exact (hT.warm hW).kept hSS.1 hSS.2.1⟩
theorem pm_cat {ad : pm_AD} (h : (st.map (fun v => v.category)).sum ≤ 8) : ((st.map (pm_vm ad)).map (fun v => v.category)).sum ≤ 8 := by
  rw [List.map_map]
  have : st.map ((fun v => v.category) ∘ pm_vm ad) = st.map (fun v => v.category) := List.map_congr_left fun v _ => pm_vm_cat ad v
  rw [this]; exact h
variable {mi : pm_I} {d mc ms n idx b : Nat} {As stk : List Value} {post : pm_PT}
theorem w_callV {ci : Nat} (hd : decode (mi_b μ) pc = .ok (.invokevirtual idx, 3)) (hm : pm_mt mi n) (hl : Cond.methodLink (mi_o μ) idx mi.1 ∈ gw) (hi : Cond.instanceMethod mi.1 ∈ gw) (hsel : Cond.selects mi.1.cls mi.1 mi.1 ∈ gw)
    (hs : stk = As.reverse ++ .ref b :: st) (hk : h.1[b]? = some (0, ci)) (hcn : pm_cn ci = mi.1.cls) (hn : As.length = n) (hr : (st.map (fun v => v.category)).sum ≤ 8) (hdd : d + 1 ≤ μ.2.1) (hmc : k.1 + mc ≤ μ.2.2.1 ∧ k.2 + ms ≤ μ.2.2.2.1)
    (hc : Ct G d mi mc ms (.ref b :: As) h post) (kk : ∀ v h', post v h' → Wp G μ (k.1 + mc, k.2 + ms) (pc + 3) l (v.toList ++ st) h') : Wp G μ k pc l stk h := by
  intro ad0 n0 ad p e s m args below meth c0 H ls locs hC hn0 hE hS hSS hL hl0 hst
  subst hs
  have hT := hC.2.2.2.2.2.2.2.2
  have hM := hc (fun v hv => by
    rcases List.mem_cons.mp hv with q | q
    · rw [q]; exact hst _ (by simp)
    · exact hst _ (by simp [q])) ad
  obtain ⟨r, hr1, hw⟩ := pm_cell hS (pm_lt hk)
  rw [pm_en_obj hk] at hw
  have e1 : pm_vm ad (.ref b) = .ref r := by simp [pm_vm, hr1, va_rf]
  obtain ⟨q, hq⟩ : ∃ q, vwCl[ci]? = some q := by
    cases hz : vwCl[ci]? with
    | some q => exact ⟨q, rfl⟩
    | none =>
      obtain ⟨r', h1, -⟩ := hS.1 b _ hw
      dsimp only at h1
      rw [hz] at h1
      cases h1
  have hq1 : q.1 = mi.1.cls := by rw [← hcn]; simp [pm_cn, hq]
  have hrec := va_recv hT.1 hS.1 hq hw
  rw [hq1] at hrec
  have hG : GoodIn gw (wsV (mi_o μ) idx mi.1.cls mi.1 (pm_wsO mi)) := gw_in fun w hw => by
    rcases List.mem_append.mp (show w ∈ [Cond.methodLink (mi_o μ) idx mi.1, .instanceMethod mi.1, .selects mi.1.cls mi.1 mi.1, .initialized mi.1.cls] ++ pm_wsO mi from hw) with z | z
    · simp only [List.mem_cons, List.not_mem_nil, or_false] at z
      rcases z with z | z | z | z <;> rw [z]
      · exact hl
      · exact hi
      · exact hsel
      · exact hm.2.1
    · exact pm_wsO_in hm w z
  have cw := cwV (R := pm_rm μ.2.1 μ.2.2.1 μ.2.2.2.1) (rm := pm_rm d mc ms) n hC.2.2.2.2.1 hG rfl rfl rfl ⟨rfl, hm.2.2.1, hm.2.2.2.1, hm.2.2.2.2.1⟩ ⟨hdd, by show 8 + (mi.2.2.1 + 11) + 64 * d ≤ 64 * μ.2.1; have := hm.2.2.2.2.2; omega⟩
  rw [List.map_append, List.map_cons, List.map_reverse, e1]
  rw [List.map_cons, e1] at hM
  exact pm_back hC hn0 hE hSS hL hl0 (fun v hv => hst v (by simp [hv])) (va_runV (own := mi_o μ) ⟨hC.1, hC.2.1, hC.2.2.1, hC.2.2.2.1, hC.2.2.2.2.1⟩ hM cw ⟨pm_blind, hrec, fun U hU hW => pm_pre hS hT hSS hU hW⟩ rfl (by rw [List.length_map]; exact hn) hL.1 rfl (lv_room (pm_cat hr)) hd hmc) kk
theorem w_callS (hd : decode (mi_b μ) pc = .ok (.invokestatic idx, 3)) (hm : pm_mt mi n) (hl : Cond.methodLink (mi_o μ) idx mi.1 ∈ gw) (hi : Cond.static mi.1 ∈ gw)
    (hs : stk = As.reverse ++ st) (hn : As.length = n) (hr : (st.map (fun v => v.category)).sum ≤ 8) (hdd : d + 1 ≤ μ.2.1) (hmc : k.1 + mc ≤ μ.2.2.1 ∧ k.2 + ms ≤ μ.2.2.2.1)
    (hc : Ct G d mi mc ms As h post) (kk : ∀ v h', post v h' → Wp G μ (k.1 + mc, k.2 + ms) (pc + 3) l (v.toList ++ st) h') : Wp G μ k pc l stk h := by
  intro ad0 n0 ad p e s m args below meth c0 H ls locs hC hn0 hE hS hSS hL hl0 hst
  subst hs
  have hT := hC.2.2.2.2.2.2.2.2
  have hM := hc (fun v hv => hst _ (by simp [hv])) ad
  have hG : GoodIn gw (va_wsS (mi_o μ) idx mi.1 (pm_wsO mi)) := gw_in fun w hw => by
    rcases List.mem_append.mp (show w ∈ [Cond.methodLink (mi_o μ) idx mi.1, .static mi.1, .initialized mi.1.cls] ++ pm_wsO mi from hw) with z | z
    · simp only [List.mem_cons, List.not_mem_nil, or_false] at z
      rcases z with z | z | z <;> rw [z]
      · exact hl
      · exact hi
      · exact hm.2.1
    · exact pm_wsO_in hm w z
  have cw := va_cwS (R := pm_rm μ.2.1 μ.2.2.1 μ.2.2.2.1) (rm := pm_rm d mc ms) n hC.2.2.2.2.1 hG rfl rfl rfl ⟨hm.2.2.1, hm.2.2.2.1, hm.2.2.2.2.1⟩ ⟨hdd, by show 8 + (mi.2.2.1 + 11) + 64 * d ≤ 64 * μ.2.1; have := hm.2.2.2.2.2; omega⟩
  rw [List.map_append, List.map_reverse]
  exact pm_back hC hn0 hE hSS hL hl0 (fun v hv => hst v (by simp [hv])) (va_runS (own := mi_o μ) ⟨hC.1, hC.2.1, hC.2.2.1, hC.2.2.2.1, hC.2.2.2.2.1⟩ hM cw ⟨pm_blind, fun U hU hW => pm_pre hS hT hSS hU hW⟩ rfl (by rw [List.length_map]; exact hn) hL.1 rfl (lv_room (pm_cat hr)) hd hmc) kk
theorem w_callI {ci : Nat} (hd : decode (mi_b μ) pc = .ok (.invokespecial idx, 3)) (hm : pm_mt mi n) (hl : Cond.methodLink (mi_o μ) idx mi.1 ∈ gw ∨ ∃ host, Cond.methodLinkNest (mi_o μ) idx mi.1 host ∈ gn) (hi : Cond.instanceMethod mi.1 ∈ gw) (hy : mi.1.name = "<init>") (hret : mi.2.2.2 = none)
    (hs : stk = As.reverse ++ .ref b :: st) (hk : h.1[b]? = some (0, ci)) (hn : As.length = n) (hr : (st.map (fun v => v.category)).sum ≤ 8) (hdd : d + 1 ≤ μ.2.1) (hmc : k.1 + mc ≤ μ.2.2.1 ∧ k.2 + ms ≤ μ.2.2.2.1)
    (hc : Ct G d mi mc ms (.ref b :: As) h post) (kk : ∀ v h', post v h' → Wp G μ (k.1 + mc, k.2 + ms) (pc + 3) l (v.toList ++ st) h') : Wp G μ k pc l stk h := by
  intro ad0 n0 ad p e s m args below meth c0 H ls locs hC hn0 hE hS hSS hL hl0 hst
  subst hs
  have hT := hC.2.2.2.2.2.2.2.2
  have hM := hc (fun v hv => by
    rcases List.mem_cons.mp hv with q | q
    · rw [q]; exact hst _ (by simp)
    · exact hst _ (by simp [q])) ad
  obtain ⟨r, hr1, hw⟩ := pm_cell hS (pm_lt hk)
  have e1 : pm_vm ad (.ref b) = .ref r := by simp [pm_vm, hr1, va_rf]
  have hG : GoodIn gw (pm_wsO mi) := gw_in (pm_wsO_in hm)
  have hR : (pm_rm d mc ms).frames + 1 ≤ (pm_rm μ.2.1 μ.2.2.1 μ.2.2.2.1).frames ∧ 8 + (mi.2.2.1 + 11) + (pm_rm d mc ms).locals ≤ (pm_rm μ.2.1 μ.2.2.1 μ.2.2.2.1).locals := ⟨hdd, by show 8 + (mi.2.2.1 + 11) + 64 * d ≤ 64 * μ.2.1; have := hm.2.2.2.2.2; omega⟩
  have hwO : pm_wsO mi = Cond.code mi.1 mi.2.1 mi.2.2.1 none :: gw := by rw [pm_wsO, hret]
  have ht : ∀ w ∈ gw, w.before args s = true := hC.2.2.2.2.1
  rw [List.map_append, List.map_cons, List.map_reverse, e1]
  rw [List.map_cons, e1] at hM
  rcases hl with hl | ⟨host, hl⟩
  · have cw := cwI (R := pm_rm μ.2.1 μ.2.2.1 μ.2.2.2.1) (rm := pm_rm d mc ms) (mc := mc) (ms := ms) (own := mi_o μ) (index := idx) n ht hG hwO rfl rfl (ht _ hm.2.1) (ht _ hl) (ht _ hi) hy ⟨hm.2.2.1, hm.2.2.2.1, hm.2.2.2.2.1⟩ hR
    exact pm_back hC hn0 hE hSS hL hl0 (fun v hv => hst v (by simp [hv])) (va_runI (own := mi_o μ) ⟨hC.1, hC.2.1, hC.2.2.1, hC.2.2.2.1, hC.2.2.2.2.1⟩ hM cw ⟨pm_blind, fun U hU hW => pm_pre hS hT hSS hU hW⟩ rfl (by rw [List.length_map]; exact hn) hL.1 rfl (lv_room (pm_cat hr)) hd hmc) kk
  · have cw := va_cnB (R := pm_rm μ.2.1 μ.2.2.1 μ.2.2.2.1) (rm := pm_rm d mc ms) (mc := mc) (ms := ms) (own := mi_o μ) (index := idx) n ht hG hwO rfl rfl (hT.2.2.2.1 _ hl) (ht _ hm.2.1) ⟨hm.2.2.1, hm.2.2.2.1, hm.2.2.2.2.1⟩ hR
    exact pm_back hC hn0 hE hSS hL hl0 (fun v hv => hst v (by simp [hv])) (va_runIN (own := mi_o μ) ⟨hC.1, hC.2.1, hC.2.2.1, hC.2.2.2.1, hC.2.2.2.2.1⟩ hM ⟨cw, hy, ht _ hi⟩ ⟨pm_blind, fun U hU hW => pm_pre hS hT hSS hU hW⟩ rfl (by rw [List.length_map]; exact hn) hL.1 rfl (lv_room (pm_cat hr)) hd hmc) kk
end PMK
