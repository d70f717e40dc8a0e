/-! A CALL THAT IS TRIED -/
def WpT (G : pm_G) (hh : List (Nat × Nat × Nat × Nat)) (μ : pm_M) (k : Nat × Nat) (pc : Nat) (l st : List Value) (h : pm_H) : Prop :=
  ∀ (ad0 : pm_AD) (n0 : Nat) (ad : pm_AD) (p : Program) (e : Env) (s : State) (m : MethodId) (args : Array Value) (below : List Frame) (meth : Method) (c : Code) (H : Heap) (ls : Array Slot) (locs : List Loc),
    pm_Cx G μ.1 p s m args meth c → c.exceptionTable.toList = tableOf hh → n0 ≤ h.1.length → pm_Ext n0 h.1.length ad0 ad → pm_S G ad h H → va_S (pm_A G) s.heap H locs → pm_L ad ls μ.1.2.2.1 l → (∀ v ∈ l, pm_ok h.1.length v) → (∀ v ∈ st, pm_ok h.1.length v) →
    W p (gl G) e (pm_rm μ.2.1 μ.2.2.1 μ.2.2.2.1) s m args below meth c H locs k.1 k.2 (MQ below (pm_Q G ad0 n0 μ.2.2.2.2) args s μ.2.2.1 μ.2.2.2.1 (pm_A G)) (F0 m pc ls (st.map (pm_vm ad)))
theorem pmT_1 {G : pm_G} {hh : List (Nat × Nat × Nat × Nat)} {μ : pm_M} {k : Nat × Nat} {pc pc' : Nat} {l st st' : List Value} {h : pm_H} (hok : ∀ n, (∀ v ∈ l, pm_ok n v) → (∀ v ∈ st, pm_ok n v) → ∀ v ∈ st', pm_ok n v)
    (step : ∀ {p : Program} {e : Env} {R : Room} {s : State} {m : MethodId} {args : Array Value} {below : List Frame} {meth : Method} {c : Code} {H : Heap} {ls : Array Slot} {locs : List Loc} {cells slots : Nat} {Q : State → Prop} {ad : pm_AD}, pm_Cx G μ.1 p s m args meth c → pm_L ad ls μ.1.2.2.1 l →
      W p (gl G) e R s m args below meth c H locs cells slots Q (F0 m pc' ls (st'.map (pm_vm ad))) → W p (gl G) e R s m args below meth c H locs cells slots Q (F0 m pc ls (st.map (pm_vm ad))))
    (kk : WpT G hh μ k pc' l st' h) : WpT G hh μ k pc l st h := by
  intro ad0 n0 ad p e s m args below meth c H ls locs hC hxt hn hE hS hSS hL hl hst
  exact step hC hL (kk ad0 n0 ad p e s m args below meth c H ls locs hC hxt hn hE hS hSS hL hl (hok _ hl hst))
section PXT
variable {G : pm_G} {hh : List (Nat × Nat × Nat × Nat)} {μ : pm_M} {k : Nat × Nat} {pc : Nat} {l st : List Value} {h : pm_H}
theorem wt_aload_n {j : Fin 4} {a : Nat} (hd : decode (mi_b μ) pc = .ok (.aload_n j, 1)) (he : l[(j : Nat)]? = some (.ref a)) (kk : WpT G hh μ k (pc + 1) l (.ref a :: st) h) : WpT G hh μ k pc l st h :=
  pmT_1 (fun n hl h v hv => by rcases List.mem_cons.mp hv with q | q; exact (by rw [q]; exact hl _ (List.mem_of_getElem? he)); exact h v q) (fun {_ _ _ _ _ _ _ _ _ _ _ _ _ _ _ ad} C L K => by
    have h1 := L.2.2.2 _ _ he (by simp)
    simp only [List.map_cons, pm_vm] at h1 K
    cases hz : ad a with
    | none => rw [hz] at h1 K; exact lv_aload_nN C.1 C.2.1 hd rfl h1 K
    | some q => rw [hz] at h1 K; exact lv_aload_n C.1 C.2.1 hd rfl h1 K) kk
theorem wt_iload_n {j : Fin 4} {x : Int32} (hd : decode (mi_b μ) pc = .ok (.iload_n j, 1)) (he : l[(j : Nat)]? = some (.int x)) (kk : WpT G hh μ k (pc + 1) l (.int x :: st) h) : WpT G hh μ k pc l st h :=
  pmT_1 (fun n hl h v hv => by rcases List.mem_cons.mp hv with q | q; exact (by rw [q]; exact hl _ (List.mem_of_getElem? he)); exact h v q) (fun C L K => lv_iload_n C.1 C.2.1 hd rfl (L.2.2.2 _ _ he (by simp)) K) kk
theorem wt_iconst {n : Int} {v : Int32} (hd : decode (mi_b μ) pc = .ok (.iconst n, 1)) (hv : Int32.ofInt n = v) (kk : WpT G hh μ k (pc + 1) l (.int v :: st) h) : WpT G hh μ k pc l st h :=
  pmT_1 (fun n hl h v hv => by rcases List.mem_cons.mp hv with q | q; exact (by rw [q]; trivial); exact h v (by simp [q])) (fun C _ K => lv_iconst C.1 C.2.1 hd hv K) kk
theorem pm_store0 {ad : pm_AD} {ls ls' : Array Slot} {n i : Nat} {l : List Value} {x : Value} (hL : pm_L ad ls n l) (h' : lv_has ls' n ((i, x) :: (pm_as ad l).filter (fun q => !(q.1 == i) && !(q.1 + 1 == i && q.2.category == 2)))) : pm_L ad ls' n (pm_st1 l i .null) := by
  refine ⟨h'.1, h'.2.1, by rw [pm_st1, List.length_set, pm_clr_len]; exact hL.2.2.1, fun j u hj hu => ?_⟩
  by_cases hji : j = i
  · subst hji
    have hl : j < (pm_clr l j).length := by
      have := (List.getElem?_eq_some_iff.mp hj).1
      rwa [pm_st1, List.length_set] at this
    rw [pm_st1, List.getElem?_set_self hl] at hj
    cases hj
    exact absurd rfl hu
  · rw [pm_st1, List.getElem?_set_ne (Ne.symm hji)] at hj
    obtain ⟨h1, h2⟩ := pm_clr_at hj hu
    refine h'.2.2 (j, pm_vm ad u) (List.mem_cons_of_mem _ (List.mem_filter.mpr ⟨pm_as_mem h1 hu, ?_⟩))
    simp only [Bool.and_eq_true, Bool.not_eq_true', beq_eq_false_iff_ne, ne_eq, Bool.and_eq_false_imp, beq_iff_eq]
    exact ⟨hji, fun q => by rw [pm_vm_cat]; exact fun z => h2 ⟨q, z⟩⟩
variable {mi : pm_I} {d n idx b : Nat} {As stk : List Value} {Q : Int32 → pm_H → Prop} {px : pm_H → Prop}
theorem wt_callX {ci : Nat} (hd : decode (mi_b μ) pc = .ok (.invokevirtual idx, 3)) (hm : pm_mt mi n) (hl : Cond.methodLink (mi_o μ) idx mi.1 ∈ gw) (hi : Cond.instanceMethod mi.1 ∈ gw) (hsel : Cond.selects mi.1.cls mi.1 mi.1 ∈ gw)
    (hs : stk = As.reverse ++ .ref b :: st) (hk : h.1[b]? = some (0, ci)) (hcn : pm_cn ci = mi.1.cls) (hn : As.length = n) (hr : (st.map (fun v => v.category)).sum ≤ 8) (hdd : d + 1 ≤ μ.2.1) (hmc : k.1 + 1 ≤ μ.2.2.1 ∧ k.2 + 6 ≤ μ.2.2.2.1)
    (hc : cx G d mi (.ref b :: As) h Q px) (hmo : mi_o μ = "RaisedQueueLaw") (hpc : pc < 10) (hast : decode (mi_b μ) 13 = .ok (.astore 4, 2)) (h4 : 4 < μ.1.2.2.1)
    (kk : ∀ r h', Q r h' → Wp G μ (k.1 + 1, k.2 + 6) (pc + 3) l (.int r :: st) h') (kx : ∀ h', px h' → Wp G μ (k.1 + 1, k.2 + 6) 15 (pm_st1 l 4 .null) [] h') : WpT G [(0, 10, 13, 13)] μ k pc l stk h := by
  intro ad0 n0 ad p e s m args below meth c0 H ls locs hC hxt hn0 hE hS hSS hL hl0 hst
  subst hs
  have hT := hC.2.2.2.2.2.2.2.2
  have hM := hc (fun v hv => by
    rcases List.mem_cons.mp hv with q | q
    · rw [q]; exact hst _ (by simp)
    · exact hst _ (by simp [q])) ad
  obtain ⟨r, hr1, hw⟩ := pm_cell hS (pm_lt hk)
  rw [pm_en_obj hk] at hw
  have e1 : pm_vm ad (.ref b) = .ref r := by simp [pm_vm, hr1, va_rf]
  obtain ⟨q, hq⟩ : ∃ q, vwCl[ci]? = some q := by
    cases hz : vwCl[ci]? with
    | some q => exact ⟨q, rfl⟩
    | none =>
      obtain ⟨r', h1, -⟩ := hS.1 b _ hw
      dsimp only at h1
      rw [hz] at h1
      cases h1
  have hq1 : q.1 = mi.1.cls := by rw [← hcn]; simp [pm_cn, hq]
  have hrec := va_recv hT.1 hS.1 hq hw
  rw [hq1] at hrec
  have hG : GoodIn gw (wsV (mi_o μ) idx mi.1.cls mi.1 (pm_wsO mi)) := gw_in fun w hw => by
    rcases List.mem_append.mp (show w ∈ [Cond.methodLink (mi_o μ) idx mi.1, .instanceMethod mi.1, .selects mi.1.cls mi.1 mi.1, .initialized mi.1.cls] ++ pm_wsO mi from hw) with z | z
    · simp only [List.mem_cons, List.not_mem_nil, or_false] at z
      rcases z with z | z | z | z <;> rw [z]
      · exact hl
      · exact hi
      · exact hsel
      · exact hm.2.1
    · exact pm_wsO_in hm w z
  have cw := cwV (R := pm_rm μ.2.1 μ.2.2.1 μ.2.2.2.1) (rm := pm_rm d 1 6) n hC.2.2.2.2.1 hG rfl rfl rfl ⟨rfl, hm.2.2.1, hm.2.2.2.1, hm.2.2.2.2.1⟩ ⟨hdd, by show 8 + (mi.2.2.1 + 11) + 64 * d ≤ 64 * μ.2.1; have := hm.2.2.2.2.2; omega⟩
  have hst' : ∀ v ∈ st, pm_ok h.1.length v := fun v hv => hst v (by simp [hv])
  rw [List.map_append, List.map_cons, List.map_reverse, e1]
  rw [List.map_cons, e1] at hM
  have hrun := vx_runV (own := mi_o μ) (meth := meth) (g := F0 m pc ls ((As.map (pm_vm ad)).reverse ++ Value.ref r :: st.map (pm_vm ad))) (H := H) (p := p) (e := e) (below := below) (locs := locs) (cells := k.1) (slots := k.2) ⟨hC.1, hC.2.1, hC.2.2.1, hC.2.2.2.1, hC.2.2.2.2.1⟩ hM cw ⟨pm_blind, hrec, fun U hU hW => pm_pre hS hT hSS hU hW⟩ rfl (by rw [List.length_map]; exact hn) hL.1 rfl (lv_room (pm_cat hr)) hd hmc
  intro T hTH X
  rcases hrun T hTH X with ⟨v, st₀, t, T', L, h0, X', hLf, e1', e2', ⟨⟨v', ad', h', hv, ⟨ri, hvi, hp⟩, hnn, hE', hok, hS'⟩, hz, hkp⟩, stp⟩ | ⟨qa, st₀, t, T', L, E, ce, h0, X', hLf, e1', e2', ⟨u, ⟨hp, hnn, hE'⟩, ⟨hEn, hS'⟩, hz, hkp⟩, hce, hcv, hcl, stp⟩
  · cases hvi
    cases hv
    rw [h0] at hz hkp
    have hSS' : va_S (pm_A G) s.heap T'.heap (locs ++ L) := ⟨Nat.le_trans hSS.1 (by rw [e1']; exact hz), fun q h1 h2 => by rw [e1', hkp q (Nat.lt_of_lt_of_le h1 hSS.1) h2]; exact hSS.2.1 q h1 h2, fun q hq => by
      rcases List.mem_append.mp hq with h | h
      · exact hSS.2.2 q h
      · exact hLf q h⟩
    have h10 := hS'.2.2.1.2.2
    have K := kk ri h' hp ad0 n0 ad' p e s m args below meth c0 T'.heap ls (locs ++ L) hC (Nat.le_trans hn0 hnn) (hE.trans hE' hn0 hnn) (by rw [e1']; exact hS') hSS' (pm_L_ext hE' h10 hl0 hL) (fun v hv => (hl0 v hv).le hnn) (fun w hw => by
      rcases List.mem_cons.mp hw with q | q
      · rw [q]; trivial
      · exact (hst' w q).le hnn)
    rw [List.map_cons, pm_map_ext hE' h10 hst'] at K
    obtain ⟨t2, a1, b1⟩ := K T' rfl X'
    exact ⟨t2, stp t2 a1, b1⟩
  · rw [h0] at hz hkp
    have hSS' : va_S (pm_A G) s.heap T'.heap (locs ++ L) := ⟨Nat.le_trans hSS.1 (by rw [e1']; exact hz), fun q h1 h2 => by rw [e1', hkp q (Nat.lt_of_lt_of_le h1 hSS.1) h2]; exact hSS.2.1 q h1 h2, fun q hq => by
      rcases List.mem_append.mp hq with h | h
      · exact hSS.2.2 q h
      · exact hLf q h⟩
    have h10 := hS'.2.2.1.2.2
    have hLn := pm_L_ext hE' h10 hl0 hL
    have hW := vx_catch (p := p) (l := gl G) (e := e) (R := pm_rm μ.2.1 μ.2.2.1 μ.2.2.2.1) (s := s) (m := m) (args := args) (below := below) (meth := meth) (c := c0) (H := T'.heap) (locs := locs ++ L) (cells := k.1 + 1) (slots := k.2 + 6) (Q := MQ below (pm_Q G ad0 n0 μ.2.2.2.2) args s μ.2.2.1 μ.2.2.2.1 (pm_A G)) (pc := pc) (ls := ls) (rest := st.map (pm_vm ad)) (own := "RaisedQueueLaw") (name := nse) (E := E) (ce := ce) (q := qa) (by rw [← hmo]; exact hC.2.2.2.1) [] ⟨0, 10, 13, 13⟩ [] hxt (fun z hz => by cases hz) (by
        unfold covers
        simp
        omega) (by decide) (hC.2.2.2.2.1 _ (List.mem_filter.mpr ⟨List.mem_of_getElem? (i := 1237) (by decide +kernel), by decide +kernel⟩)) (by rw [hEn]; exact ns_cast (hC.2.2.2.2.1 _ (List.mem_filter.mpr ⟨List.mem_of_getElem? (i := 1243) (by decide +kernel), by decide +kernel⟩))) (by rw [e1']; exact hce) hcv hcl
      (lv_astore hC.1 hC.2.1 hast (pm_L_has hLn) h4 rfl (fun ls' hls => kx u.2 hp ad0 n0 u.1 p e s m args below meth c0 T'.heap ls' (locs ++ L) hC (Nat.le_trans hn0 hnn) (hE.trans hE' hn0 hnn) (by rw [e1']; exact hS') hSS' (pm_store0 hLn hls) (pm_ok_st1 (fun v hv => (hl0 v hv).le hnn) trivial) (fun v hv => by cases hv)))
    obtain ⟨t2, a1, b1⟩ := hW T' rfl X'
    exact ⟨t2, stp.trans a1, b1⟩
end PXT
