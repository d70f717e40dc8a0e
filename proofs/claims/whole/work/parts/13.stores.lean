/-! LOCALS ARE WRITTEN -/
def pm_clr (l : List Value) : Nat → List Value
  | 0 => l
  | j + 1 => match l[j]? with
    | some (.long _) => l.set j .null
    | some (.double _) => l.set j .null
    | _ => l
def pm_st1 (l : List Value) (i : Nat) (v : Value) : List Value := (pm_clr l i).set i v
def pm_st2 (l : List Value) (i : Nat) (v : Value) : List Value := ((pm_clr l i).set i v).set (i + 1) .null
def pm_as (ad : pm_AD) (l : List Value) : List (Nat × Value) := (List.range l.length).filterMap (fun i => match (l[i]? : Option Value) with
  | some Value.null => none
  | some v => some (i, pm_vm ad v)
  | none => none)
theorem pm_as_mem {ad : pm_AD} {l : List Value} {i : Nat} {v : Value} (h : l[i]? = some v) (hv : v ≠ .null) : (i, pm_vm ad v) ∈ pm_as ad l := by
  refine List.mem_filterMap.mpr ⟨i, List.mem_range.mpr (List.getElem?_eq_some_iff.mp h).1, ?_⟩
  simp only [h]
theorem pm_as_of {ad : pm_AD} {l : List Value} {q : Nat × Value} (h : q ∈ pm_as ad l) : ∃ v, l[q.1]? = some v ∧ v ≠ .null ∧ q.2 = pm_vm ad v := by
  obtain ⟨i, -, hi⟩ := List.mem_filterMap.mp h
  split at hi
  next => cases hi
  next v hn he => cases hi; exact ⟨v, he, hn, rfl⟩
  next => cases hi
theorem pm_L_has {ad : pm_AD} {ls : Array Slot} {n : Nat} {l : List Value} (h : pm_L ad ls n l) : lv_has ls n (pm_as ad l) := by
  refine ⟨h.1, h.2.1, fun q hq => ?_⟩
  obtain ⟨v, h1, h2, h3⟩ := pm_as_of hq
  rw [h3]
  exact h.2.2.2 _ _ h1 h2
theorem pm_clr_len (l : List Value) (i : Nat) : (pm_clr l i).length = l.length := by
  cases i with
  | zero => rfl
  | succ j => simp only [pm_clr]; split <;> simp
theorem pm_clr_at {l : List Value} {i j : Nat} {u : Value} (h : (pm_clr l i)[j]? = some u) (hu : u ≠ .null) : l[j]? = some u ∧ ¬ (j + 1 = i ∧ u.category = 2) := by
  cases i with
  | zero => exact ⟨h, fun q => by omega⟩
  | succ k =>
    simp only [pm_clr] at h
    by_cases hj : j = k
    · subst hj
      split at h
      next x hx =>
        rw [List.getElem?_set_self (List.getElem?_eq_some_iff.mp hx).1] at h
        exact absurd (Option.some.inj h).symm hu
      next x hx =>
        rw [List.getElem?_set_self (List.getElem?_eq_some_iff.mp hx).1] at h
        exact absurd (Option.some.inj h).symm hu
      next h1 h2 =>
        refine ⟨h, fun q => ?_⟩
        cases u with
        | long x => exact h1 x h
        | double x => exact h2 x h
        | _ => exact absurd q.2 (by simp [Value.category])
    · refine ⟨?_, fun q => hj (by omega)⟩
      split at h
      · rwa [List.getElem?_set_ne (Ne.symm hj)] at h
      · rwa [List.getElem?_set_ne (Ne.symm hj)] at h
      · exact h
theorem pm_store1 {ad : pm_AD} {ls ls' : Array Slot} {n i : Nat} {l : List Value} {v : Value} (hL : pm_L ad ls n l) (h' : lv_has ls' n ((i, pm_vm ad v) :: (pm_as ad l).filter (fun q => !(q.1 == i) && !(q.1 + 1 == i && q.2.category == 2)))) : pm_L ad ls' n (pm_st1 l i v) := by
  refine ⟨h'.1, h'.2.1, by rw [pm_st1, List.length_set, pm_clr_len]; exact hL.2.2.1, fun j u hj hu => ?_⟩
  by_cases hji : j = i
  · subst hji
    have hl : j < (pm_clr l j).length := by
      have := (List.getElem?_eq_some_iff.mp hj).1
      rwa [pm_st1, List.length_set] at this
    rw [pm_st1, List.getElem?_set_self hl] at hj
    cases hj
    exact h'.2.2 _ List.mem_cons_self
  · rw [pm_st1, List.getElem?_set_ne (Ne.symm hji)] at hj
    obtain ⟨h1, h2⟩ := pm_clr_at hj hu
    refine h'.2.2 (j, pm_vm ad u) (List.mem_cons_of_mem _ (List.mem_filter.mpr ⟨pm_as_mem h1 hu, ?_⟩))
    simp only [Bool.and_eq_true, Bool.not_eq_true', beq_eq_false_iff_ne, ne_eq, Bool.and_eq_false_imp, beq_iff_eq]
    exact ⟨hji, fun q => by rw [pm_vm_cat]; exact fun z => h2 ⟨q, z⟩⟩
theorem pm_store2 {ad : pm_AD} {ls ls' : Array Slot} {n i : Nat} {l : List Value} {v : Value} (hL : pm_L ad ls n l) (h' : lv_has ls' n ((i, pm_vm ad v) :: (pm_as ad l).filter (fun q => !(q.1 == i) && (!(q.1 == i + 1) && !(q.1 + 1 == i && q.2.category == 2))))) : pm_L ad ls' n (pm_st2 l i v) := by
  refine ⟨h'.1, h'.2.1, by rw [pm_st2, List.length_set, List.length_set, pm_clr_len]; exact hL.2.2.1, fun j u hj hu => ?_⟩
  by_cases hj1 : j = i + 1
  · subst hj1
    rw [pm_st2] at hj
    have hl : i + 1 < ((pm_clr l i).set i v).length := by
      have := (List.getElem?_eq_some_iff.mp hj).1
      rwa [List.length_set] at this
    rw [List.getElem?_set_self hl] at hj
    exact absurd (Option.some.inj hj).symm hu
  · rw [pm_st2, List.getElem?_set_ne (Ne.symm hj1)] at hj
    by_cases hji : j = i
    · subst hji
      have hl : j < (pm_clr l j).length := by
        have := (List.getElem?_eq_some_iff.mp hj).1
        rwa [List.length_set] at this
      rw [List.getElem?_set_self hl] at hj
      cases hj
      exact h'.2.2 _ List.mem_cons_self
    · rw [List.getElem?_set_ne (Ne.symm hji)] at hj
      obtain ⟨h1, h2⟩ := pm_clr_at hj hu
      refine h'.2.2 (j, pm_vm ad u) (List.mem_cons_of_mem _ (List.mem_filter.mpr ⟨pm_as_mem h1 hu, ?_⟩))
      simp only [Bool.and_eq_true, Bool.not_eq_true', beq_eq_false_iff_ne, ne_eq, Bool.and_eq_false_imp, beq_iff_eq]
      exact ⟨hji, hj1, fun q => by rw [pm_vm_cat]; exact fun z => h2 ⟨q, z⟩⟩
theorem pm_ok_set {n : Nat} {l : List Value} {i : Nat} {v : Value} (h : ∀ w ∈ l, pm_ok n w) (hv : pm_ok n v) : ∀ w ∈ l.set i v, pm_ok n w := by
  intro w hw
  rcases List.mem_or_eq_of_mem_set hw with q | q
  · exact h w q
  · rw [q]; exact hv
theorem pm_ok_clr {n : Nat} {l : List Value} {i : Nat} (h : ∀ w ∈ l, pm_ok n w) : ∀ w ∈ pm_clr l i, pm_ok n w := by
  cases i with
  | zero => exact h
  | succ j =>
    simp only [pm_clr]
    split
    · exact pm_ok_set h trivial
    · exact pm_ok_set h trivial
    · exact h
theorem pm_ok_st1 {n : Nat} {l : List Value} {i : Nat} {v : Value} (h : ∀ w ∈ l, pm_ok n w) (hv : pm_ok n v) : ∀ w ∈ pm_st1 l i v, pm_ok n w := pm_ok_set (pm_ok_clr h) hv
theorem pm_ok_st2 {n : Nat} {l : List Value} {i : Nat} {v : Value} (h : ∀ w ∈ l, pm_ok n w) (hv : pm_ok n v) : ∀ w ∈ pm_st2 l i v, pm_ok n w := pm_ok_set (pm_ok_set (pm_ok_clr h) hv) trivial
theorem pm_tl {n : Nat} {v : Value} {st : List Value} (h : ∀ w ∈ v :: st, pm_ok n w) : ∀ w ∈ st, pm_ok n w := fun w hw => h w (List.mem_cons_of_mem _ hw)
section PMS
variable {G : pm_G} {μ : pm_M} {k : Nat × Nat} {pc : Nat} {l st : List Value} {h : pm_H}
theorem w_istore_n {j : Fin 4} {x : Int32} (hd : decode (mi_b μ) pc = .ok (.istore_n j, 1)) (hi : (j : Nat) < μ.1.2.2.1) (kk : Wp G μ k (pc + 1) (pm_st1 l j (.int x)) st h) : Wp G μ k pc l (.int x :: st) h := by
  intro ad0 n0 ad p e s m args below meth c H ls locs hC hn hE hS hSS hL hl hst
  exact lv_istore_n hC.1 hC.2.1 hd rfl (pm_L_has hL) hi rfl fun ls' h' => kk ad0 n0 ad p e s m args below meth c H ls' locs hC hn hE hS hSS (pm_store1 (v := .int x) hL h') (pm_ok_st1 hl trivial) (pm_tl hst)
theorem w_istore {i : Nat} {x : Int32} (hd : decode (mi_b μ) pc = .ok (.istore i, 2)) (hi : i < μ.1.2.2.1) (kk : Wp G μ k (pc + 2) (pm_st1 l i (.int x)) st h) : Wp G μ k pc l (.int x :: st) h := by
  intro ad0 n0 ad p e s m args below meth c H ls locs hC hn hE hS hSS hL hl hst
  exact lv_istore hC.1 hC.2.1 hd (pm_L_has hL) hi rfl fun ls' h' => kk ad0 n0 ad p e s m args below meth c H ls' locs hC hn hE hS hSS (pm_store1 (v := .int x) hL h') (pm_ok_st1 hl trivial) (pm_tl hst)
theorem w_fstore_n {j : Fin 4} {x : UInt32} (hd : decode (mi_b μ) pc = .ok (.fstore_n j, 1)) (hi : (j : Nat) < μ.1.2.2.1) (kk : Wp G μ k (pc + 1) (pm_st1 l j (.float x)) st h) : Wp G μ k pc l (.float x :: st) h := by
  intro ad0 n0 ad p e s m args below meth c H ls locs hC hn hE hS hSS hL hl hst
  exact lv_fstore_n hC.1 hC.2.1 hd rfl (pm_L_has hL) hi rfl fun ls' h' => kk ad0 n0 ad p e s m args below meth c H ls' locs hC hn hE hS hSS (pm_store1 (v := .float x) hL h') (pm_ok_st1 hl trivial) (pm_tl hst)
theorem w_fstore {i : Nat} {x : UInt32} (hd : decode (mi_b μ) pc = .ok (.fstore i, 2)) (hi : i < μ.1.2.2.1) (kk : Wp G μ k (pc + 2) (pm_st1 l i (.float x)) st h) : Wp G μ k pc l (.float x :: st) h := by
  intro ad0 n0 ad p e s m args below meth c H ls locs hC hn hE hS hSS hL hl hst
  exact lv_fstore hC.1 hC.2.1 hd (pm_L_has hL) hi rfl fun ls' h' => kk ad0 n0 ad p e s m args below meth c H ls' locs hC hn hE hS hSS (pm_store1 (v := .float x) hL h') (pm_ok_st1 hl trivial) (pm_tl hst)
theorem w_lstore_n {j : Fin 4} {x : Int64} (hd : decode (mi_b μ) pc = .ok (.lstore_n j, 1)) (hi : (j : Nat) + 1 < μ.1.2.2.1) (kk : Wp G μ k (pc + 1) (pm_st2 l j (.long x)) st h) : Wp G μ k pc l (.long x :: st) h := by
  intro ad0 n0 ad p e s m args below meth c H ls locs hC hn hE hS hSS hL hl hst
  exact lv_lstore_n hC.1 hC.2.1 hd rfl (pm_L_has hL) hi rfl fun ls' h' => kk ad0 n0 ad p e s m args below meth c H ls' locs hC hn hE hS hSS (pm_store2 (v := .long x) hL h') (pm_ok_st2 hl trivial) (pm_tl hst)
theorem w_lstore {i : Nat} {x : Int64} (hd : decode (mi_b μ) pc = .ok (.lstore i, 2)) (hi : i + 1 < μ.1.2.2.1) (kk : Wp G μ k (pc + 2) (pm_st2 l i (.long x)) st h) : Wp G μ k pc l (.long x :: st) h := by
  intro ad0 n0 ad p e s m args below meth c H ls locs hC hn hE hS hSS hL hl hst
  exact lv_lstore hC.1 hC.2.1 hd (pm_L_has hL) hi rfl fun ls' h' => kk ad0 n0 ad p e s m args below meth c H ls' locs hC hn hE hS hSS (pm_store2 (v := .long x) hL h') (pm_ok_st2 hl trivial) (pm_tl hst)
theorem w_astore_n {j : Fin 4} {a : Nat} (hd : decode (mi_b μ) pc = .ok (.astore_n j, 1)) (hi : (j : Nat) < μ.1.2.2.1) (kk : Wp G μ k (pc + 1) (pm_st1 l j (.ref a)) st h) : Wp G μ k pc l (.ref a :: st) h := by
  intro ad0 n0 ad p e s m args below meth c H ls locs hC hn hE hS hSS hL hl hst
  have hk := fun (ls' : Array Slot) (h' : lv_has ls' μ.1.2.2.1 ((((j : Nat), pm_vm ad (.ref a)) :: (pm_as ad l).filter (fun q => !(q.1 == (j : Nat)) && !(q.1 + 1 == (j : Nat) && q.2.category == 2))))) => kk ad0 n0 ad p e s m args below meth c H ls' locs hC hn hE hS hSS (pm_store1 (v := .ref a) hL h') (pm_ok_st1 hl (hst _ List.mem_cons_self)) (pm_tl hst)
  simp only [List.map_cons, pm_vm] at hk ⊢
  cases hz : ad a with
  | none => rw [hz] at hk; exact lv_astore_nN hC.1 hC.2.1 hd rfl (pm_L_has hL) hi rfl hk
  | some q => rw [hz] at hk; exact lv_astore_n hC.1 hC.2.1 hd rfl (pm_L_has hL) hi rfl hk
theorem w_astore {i : Nat} {a : Nat} (hd : decode (mi_b μ) pc = .ok (.astore i, 2)) (hi : i < μ.1.2.2.1) (kk : Wp G μ k (pc + 2) (pm_st1 l i (.ref a)) st h) : Wp G μ k pc l (.ref a :: st) h := by
  intro ad0 n0 ad p e s m args below meth c H ls locs hC hn hE hS hSS hL hl hst
  have hk := fun (ls' : Array Slot) (h' : lv_has ls' μ.1.2.2.1 (((i, pm_vm ad (.ref a)) :: (pm_as ad l).filter (fun q => !(q.1 == i) && !(q.1 + 1 == i && q.2.category == 2))))) => kk ad0 n0 ad p e s m args below meth c H ls' locs hC hn hE hS hSS (pm_store1 (v := .ref a) hL h') (pm_ok_st1 hl (hst _ List.mem_cons_self)) (pm_tl hst)
  simp only [List.map_cons, pm_vm] at hk ⊢
  cases hz : ad a with
  | none => rw [hz] at hk; exact lv_astoreN hC.1 hC.2.1 hd (pm_L_has hL) hi rfl hk
  | some q => rw [hz] at hk; exact lv_astore hC.1 hC.2.1 hd (pm_L_has hL) hi rfl hk
theorem w_iinc {i : Nat} {n : Int} {x v : Int32} (hd : decode (mi_b μ) pc = .ok (.iinc i n, 3)) (he : l[i]? = some (.int x)) (hv : x + Int32.ofInt n = v) (hi : i < μ.1.2.2.1) (kk : Wp G μ k (pc + 3) (pm_st1 l i (.int v)) st h) : Wp G μ k pc l st h := by
  intro ad0 n0 ad p e s m args below meth c H ls locs hC hn hE hS hSS hL hl hst
  obtain ⟨q, hq⟩ := List.getElem?_of_mem (pm_as_mem (ad := ad) he (by simp))
  exact lv_iinc hC.1 hC.2.1 hd (pm_L_has hL) hq hv hi rfl fun ls' h' => kk ad0 n0 ad p e s m args below meth c H ls' locs hC hn hE hS hSS (pm_store1 (v := .int v) hL h') (pm_ok_st1 hl trivial) hst
end PMS
