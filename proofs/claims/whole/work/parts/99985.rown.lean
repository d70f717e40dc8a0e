/-! THE REFERENCE's OWN: frames; what is told -/
theorem nf (h : pm_H) : s8 (fp h (gi h 456) (gi h 457)) (gi h 458) = h := by rw [fp_self, s8_self]
theorem nfc (h : pm_H) : s8 (fp (co h (gi h 461)) (gi h 456) (gi h 457)) (gi h 458) = h := by rw [co_self, fp_self, s8_self]
theorem nfk (h : pm_H) : s8 (fp (co (ko h (gi h 462)) (gi h 461)) (gi h 456) (gi h 457)) (gi h 458) = h := by rw [ko_self, co_self, fp_self, s8_self]
theorem WkR.of {L L' : Nat → Int32} {l : List Ln} (h : WkR L l) (e : L' = L) : WkR L' l := by rw [e]; exact h
theorem SnR.of {S S' : Nat → Int32} {sl : List Sn} (h : SnR S sl) (hl : sl.length ≤ 8) (e : ∀ j, j < 345 → S' j = S j) : SnR S' sl := by
  refine ⟨(e 320 (by decide)).trans h.1, fun k x hx => ?_⟩
  have := (List.getElem?_eq_some_iff.mp hx).1
  obtain ⟨a, b, c⟩ := h.2 k x hx
  exact ⟨(e _ (by omega)).trans a, (e _ (by omega)).trans b, (e _ (by omega)).trans c⟩
/-- what the trials of the reference may change -/
def FrV (h h' : pm_H) : Prop := h'.1 = h.1 ∧ (∀ a, a ≠ 456 → a ≠ 457 → a ≠ 458 → a ≠ 461 → a ≠ 462 → gi h' a = gi h a) ∧ RY (gi h 458) (gi h' 458) ∧ (∀ a, a ≠ 446 → gj h' a = gj h a) ∧ gf h' = gf h ∧ gp h' = gp h
theorem FrV.rfl' {h : pm_H} : FrV h h := ⟨rfl, fun _ _ _ _ _ _ => rfl, RY.rfl', fun _ _ => rfl, rfl, rfl⟩
theorem FrV.trans {h h1 h2 : pm_H} (a : FrV h h1) (b : FrV h1 h2) : FrV h h2 := ⟨b.1.trans a.1, fun x h1 h2 h3 h4 h5 => (b.2.1 x h1 h2 h3 h4 h5).trans (a.2.1 x h1 h2 h3 h4 h5), a.2.2.1.trans b.2.2.1, fun x hx => (b.2.2.2.1 x hx).trans (a.2.2.2.1 x hx), b.2.2.2.2.1.trans a.2.2.2.2.1, b.2.2.2.2.2.trans a.2.2.2.2.2⟩
theorem FrV.fb {h h' : pm_H} (f : FrV h h') : FrB h h' := ⟨f.1, fun a ha => f.2.1 a (by omega) (by omega) (by omega) (by omega) (by omega), fun a ha => f.2.2.2.1 a (by omega), f.2.2.2.2.1, f.2.2.2.2.2⟩
theorem InvR.fv {h h' : pm_H} {s : Sta} {w : Nat} (i : InvR h s) (ok : okSta s w) (f : FrV h h') : InvR h' s := by
  obtain ⟨i1, i2, ⟨i3, i4⟩, i5, i6, i7, i8, i9, i10, i11, i12⟩ := i
  have e : ∀ a, a ≠ 456 → a ≠ 457 → a ≠ 458 → a ≠ 461 → a ≠ 462 → gi h' a = gi h a := f.2.1
  have e46 : gi h' 446 = gi h 446 := e 446 (by decide) (by decide) (by decide) (by decide) (by decide)
  have e60 : gi h' 460 = gi h 460 := e 460 (by decide) (by decide) (by decide) (by decide) (by decide)
  have y := f.2.2.1
  refine ⟨f.fb.la i1, fun w hw => (congrFun (f.2.2.2.1 451 (by decide)) w).trans (i2 w hw), ⟨fun j hj => (congrFun (e 447 (by decide) (by decide) (by decide) (by decide) (by decide)) j).trans (i3 j hj), (congrFun e46 2).trans i4⟩, i5.same (e 452 (by decide) (by decide) (by decide) (by decide) (by decide)) (e 453 (by decide) (by decide) (by decide) (by decide) (by decide)) (f.2.2.2.1 454 (by decide)), fun t ht => (congrFun e60 t).trans (i6 t ht), i7.of (e 455 (by decide) (by decide) (by decide) (by decide) (by decide)), ?_, ⟨(congrFun e46 18).trans i9.1, fun j A hA => ?_⟩, i10.of ok.s.2 (fun j hj => y j (by omega)), (congrFun e46 19).trans i11, fun m hm => ⟨fun z => (congrFun (e 459 (by decide) (by decide) (by decide) (by decide) (by decide)) m).trans ((i12 m hm).1 z), fun A sl z => ?_⟩⟩
  · rw [e60]
    exact i8.move (a := 0) (c := 0) (fun j hj => y _ (by omega))
  · rw [e60]
    have hj := (List.getElem?_eq_some_iff.mp hA).1
    have := ok.u.2
    exact (i9.2 j A hA).move (fun x hx => y _ (by omega))
  · obtain ⟨a, b, c⟩ := (i12 m hm).2 A sl z
    refine ⟨(congrFun (e 459 (by decide) (by decide) (by decide) (by decide) (by decide)) m).trans a, ?_, c.of (ok.m m A sl z).2.2 (fun j hj => y _ (by omega))⟩
    rw [e60]
    exact b.move (fun x hx => y _ (by omega))
theorem FrV.mk {h : pm_H} {K C F P S' : Nat → Int32} (y : RY (gi h 458) S') : FrV h (s8 (fp (co (ko h K) C) F P) S') := by
  refine ⟨rfl, fun a h1 h2 h3 h4 h5 => ?_, ?_, fun _ _ => rfl, rfl, rfl⟩
  · rw [sfk _ _ _ _ _ h1 h2 h3 h4, ko_ne _ _ h5]
  · rw [s8_gi]; exact y
theorem FrV.mc {h : pm_H} {C F P S' : Nat → Int32} (y : RY (gi h 458) S') : FrV h (s8 (fp (co h C) F P) S') := by
  refine ⟨rfl, fun a h1 h2 h3 h4 h5 => ?_, ?_, fun _ _ => rfl, rfl, rfl⟩
  · rw [sfk _ _ _ _ _ h1 h2 h3 h4]
  · rw [s8_gi]; exact y
theorem FrV.m {h : pm_H} {F P S' : Nat → Int32} (y : RY (gi h 458) S') : FrV h (s8 (fp h F P) S') := by
  refine ⟨rfl, fun a h1 h2 h3 h4 h5 => ?_, ?_, fun _ _ => rfl, rfl, rfl⟩
  · rw [sfgi _ _ _ _ h1 h2 h3]
  · rw [s8_gi]; exact y
/-- a field of its own -/
theorem si_66 {h : pm_H} {k j : Nat} {v : Int32} : gi (si h 446 k v) 446 j = if j = k then v else gi h 446 j := by
  show pm_u (gi h) 446 k v 446 j = _
  rw [pm_u_at]; rfl
theorem si_6n {h : pm_H} {k a : Nat} {v : Int32} (ha : a ≠ 446) : gi (si h 446 k v) a = gi h a := pm_u_ne _ _ _ ha
theorem FrB.si {h : pm_H} {a k : Nat} {v : Int32} (ha : 446 ≤ a) : FrB h (si h a k v) := ⟨rfl, fun b hb => pm_u_ne _ _ _ (by omega), fun _ _ => rfl, rfl, rfl⟩
theorem InvR.fld {h : pm_H} {s : Sta} {k : Nat} {v : Int32} (i : InvR h s) (hk : k ≠ 2) (h18 : k = 18 → v = nI (sU s).length) (h19 : k = 19 → v = nI (sN s)) : InvR (si h 446 k v) s := by
  obtain ⟨i1, i2, ⟨i3, i4⟩, i5, i6, i7, i8, i9, i10, i11, i12⟩ := i
  have e : ∀ a, a ≠ 446 → gi (si h 446 k v) a = gi h a := fun a ha => si_6n ha
  refine ⟨i1, i2, ⟨fun j hj => (congrFun (e 447 (by decide)) j).trans (i3 j hj), ?_⟩, i5.same (e 452 (by decide)) (e 453 (by decide)) rfl, fun t ht => (congrFun (e 460 (by decide)) t).trans (i6 t ht), i7.of (e 455 (by decide)), ?_, ⟨?_, ?_⟩, ?_, ?_, ?_⟩
  · rw [si_66, if_neg (fun q => hk q.symm)]; exact i4
  · rw [e 460 (by decide), e 458 (by decide)]; exact i8
  · rw [si_66]
    by_cases c : 18 = k
    · rw [if_pos c]; exact h18 c.symm
    · rw [if_neg c]; exact i9.1
  · rw [e 460 (by decide), e 458 (by decide)]; exact i9.2
  · rw [e 458 (by decide)]; exact i10
  · rw [si_66]
    by_cases c : 19 = k
    · rw [if_pos c]; exact h19 c.symm
    · rw [if_neg c]; exact i11
  · intro m hm
    rw [e 460 (by decide), e 458 (by decide), e 459 (by decide)]
    exact i12 m hm
theorem InvR.th {h : pm_H} {s : Sta} {v : Int32} (i : InvR h s) : InvR (si h 446 0 v) s := i.fld (by decide) (fun q => by cases q) (fun q => by cases q)
theorem InvR.shut1 {h : pm_H} {s : Sta} (i : InvR h s) : InvR (si h 446 19 (gi h 446 19 + 1)) (stN s (sN s + 1)) := by
  have e : gi h 446 19 + 1 = nI (sN s + 1) := by rw [i.shut, show (1 : Int32) = nI 1 from rfl, nI_add]
  rw [e]
  obtain ⟨i1, i2, i3, i5, i6, i7, i8, i9, i10, i11, i12⟩ := i
  have i' : InvR (si h 446 19 (nI (sN s + 1))) (stN s (sN s + 1)) := by
    have e : ∀ a, a ≠ 446 → gi (si h 446 19 (nI (sN s + 1))) a = gi h a := fun a ha => si_6n ha
    refine ⟨i1, i2, ⟨fun j hj => (congrFun (e 447 (by decide)) j).trans (i3.1 j hj), ?_⟩, i5.same (e 452 (by decide)) (e 453 (by decide)) rfl, fun t ht => (congrFun (e 460 (by decide)) t).trans (i6 t ht), i7.of (e 455 (by decide)), ?_, ⟨?_, ?_⟩, ?_, ?_, ?_⟩
    · rw [si_66]; exact i3.2
    · rw [e 460 (by decide), e 458 (by decide)]; exact i8
    · rw [si_66]; exact i9.1
    · rw [e 460 (by decide), e 458 (by decide)]; exact i9.2
    · rw [e 458 (by decide)]; exact i10
    · rw [si_66]; rfl
    · intro m hm
      rw [e 460 (by decide), e 458 (by decide), e 459 (by decide)]
      exact i12 m hm
  exact i'
theorem okSta_stN {s : Sta} {w n : Nat} (h : okSta s w) : okSta (stN s n) w := h
section QB
variable {G : pm_G} {d : Nat} {h : pm_H} {s : Sta} {w : Nat}
theorem InvR.hn (i : InvR h s) : gi h 452 0 = nI (pHn (sP s)) ∧ gi h 452 1 = nI (pSs (sP s)) ∧ gi h 452 2 = nI (pN (sP s)) ∧ gi h 452 3 = nI (pSh (sP s)) := ⟨i.pl.1, i.pl.2.1, i.pl.2.2.1, i.pl.2.2.2.1⟩
theorem q_heaps {Q : Int32 → pm_H → Prop} (i : InvR h s) (k : Q (nI (pHn (sP s))) h) : ci G (d + 1) m_X12_heaps [.ref 446] h Q := by
  have t := r_heaps (G := G) (d := d) (F := gi h 456) (P := gi h 457) (S := gi h 458) (Q := Q) i.la.mk i.hn.1 (by rw [nf]; exact k)
  rwa [nf] at t
theorem q_items {Q : Int32 → pm_H → Prop} (i : InvR h s) (k : Q (nI (pN (sP s))) h) : ci G (d + 1) m_X12_items [.ref 446] h Q := by
  have t := r_items (G := G) (d := d) (F := gi h 456) (P := gi h 457) (S := gi h 458) (Q := Q) i.la.mk i.hn.2.2.1 (by rw [nf]; exact k)
  rwa [nf] at t
theorem q_isHeap {x : Int32} {Q : Int32 → pm_H → Prop} (i : InvR h s) (hO : PlO (sP s)) (k : Q (b2i (inB (pHn (sP s)) x)) h) : ci G (d + 2) m_X12_isHeap [.ref 446, .int x] h Q := by
  have b : pHn (sP s) ≤ 3 := hO.2.2.2.1
  refine ci_wp rfl (Nat.le_of_ble_eq_true rfl) rfl (x_X12_isHeap ?_)
  by_cases c : x < 0
  · rw [if_pos c]; rw [inB_no (Or.inl c) (by omega)] at k; exact ⟨_, rfl, k⟩
  · rw [if_neg c]
    refine ⟨i.la.md.1, q_heaps i ?_⟩
    by_cases c2 : nI (pHn (sP s)) ≤ x
    · rw [if_pos c2]; rw [inB_no (Or.inr c2) (by omega)] at k; exact ⟨_, rfl, k⟩
    · rw [if_neg c2]; rw [inB_lt c c2 (by omega)] at k; exact ⟨_, rfl, k⟩
theorem q_isItem {x : Int32} {Q : Int32 → pm_H → Prop} (i : InvR h s) (hO : PlO (sP s)) (k : Q (b2i (inB (pN (sP s)) x)) h) : ci G (d + 2) m_X12_isItem [.ref 446, .int x] h Q := by
  have b : pN (sP s) ≤ 20 := hO.2.2.2.2.2.1
  refine ci_wp rfl (Nat.le_of_ble_eq_true rfl) rfl (x_X12_isItem ?_)
  by_cases c : x < 0
  · rw [if_pos c]; rw [inB_no (Or.inl c) (by omega)] at k; exact ⟨_, rfl, k⟩
  · rw [if_neg c]
    refine ⟨i.la.md.1, q_items i ?_⟩
    by_cases c2 : nI (pN (sP s)) ≤ x
    · rw [if_pos c2]; rw [inB_no (Or.inr c2) (by omega)] at k; exact ⟨_, rfl, k⟩
    · rw [if_neg c2]; rw [inB_lt c c2 (by omega)] at k; exact ⟨_, rfl, k⟩
theorem q_within {x : Int32} {n : Nat} {Q : Int32 → pm_H → Prop} (hn : n < 2 ^ 30) (k : Q (b2i (inB (n + 1) x)) h) : ci G (d + 1) m_X12_within [.int x, .int 0, .int (nI n)] h Q := by
  refine ci_wp rfl (Nat.le_of_ble_eq_true rfl) rfl (x_X12_within ?_)
  by_cases c : x < 0
  · rw [if_pos c]; rw [inB_no (Or.inl c) (by omega)] at k; exact ⟨_, rfl, k⟩
  · rw [if_neg c]
    by_cases c2 : nI n < x
    · rw [if_pos c2]
      rw [inB_no (Or.inr (by rw [i_le, nI_toInt (by omega)]; rw [i_lt, nI_toInt (by omega)] at c2; omega)) (by omega)] at k; exact ⟨_, rfl, k⟩
    · rw [if_neg c2]
      rw [inB_lt c (by rw [i_le, nI_toInt (by omega)]; rw [i_lt, nI_toInt (by omega)] at c2; omega) (by omega)] at k; exact ⟨_, rfl, k⟩
theorem nI_m1 {n : Nat} : nI (n + 1) - 1 = nI n := by
  rw [← nI_add, show nI 1 = (1 : Int32) from rfl, Int32.add_sub_cancel]
theorem q_withinN {x : Int32} {n : Nat} {Q : Int32 → pm_H → Prop} (hn : n < 2 ^ 30) (k : Q (b2i (inB n x)) h) : ci G (d + 1) m_X12_within [.int x, .int 0, .int (nI n - 1)] h Q := by
  cases n with
  | succ n => rw [nI_m1]; exact q_within (by omega) k
  | zero =>
    refine ci_wp rfl (Nat.le_of_ble_eq_true rfl) rfl (x_X12_within ?_)
    have e : inB 0 x = false := by
      unfold inB
      by_cases c : 0 ≤ x.toInt
      · rw [decide_eq_false (show ¬ x.toInt < (0 : Nat) by omega), Bool.and_false]
      · rw [decide_eq_false c]; rfl
    rw [e] at k
    by_cases c : x < 0
    · rw [if_pos c]; exact ⟨_, rfl, k⟩
    · rw [if_neg c, if_pos (show nI 0 - 1 < x from by
        rw [show nI 0 - 1 = (-1 : Int32) from rfl, i_lt]
        rw [i_lt0] at c
        show (-1 : Int) < _; omega)]
      exact ⟨_, rfl, k⟩
theorem q_nodeOf {n v : Nat} {Q : Int32 → pm_H → Prop} (i : InvR h s) (hi : 8 * n + v < 4485) (k : Q (gi h 458 (8 * n + v)) h) : ci G (d + 1) m_X12_nodeOf [.ref 446, .int 0, .int (nI n), .int (nI v)] h Q := by
  have t := r_nodeOf (G := G) (d := d) (S := gi h 458) (b := 0) (n := n) (w := v) (Q := Q) i.la.md (by omega) (by rw [s8_self, show 0 + 8 * n + v = 8 * n + v by omega]; exact k)
  rwa [s8_self] at t
theorem q_itemOf {t v : Nat} {Q : Int32 → pm_H → Prop} (i : InvR h s) (hi : 7 + 4 * t + v < 180) (k : Q (gi h 452 (7 + 4 * t + v)) h) : ci G (d + 1) m_X12_itemOf [.ref 446, .int (nI t), .int (nI v)] h Q := by
  have t := r_itemOf (G := G) (d := d) (F := gi h 456) (P := gi h 457) (S := gi h 458) (t := t) (w := v) (Q := Q) i.la.mk hi (by rw [nf]; exact k)
  rwa [nf] at t
theorem q_isIn {a : Nat} {Q : Int32 → pm_H → Prop} (i : InvR h s) (ok : okSta s w) (ha : a < 20) (k : Q (if (sA s).2.1 a = -1 then 0 else 1) h) : ci G (d + 1) m_X12_isIn [.ref 446, .int (nI a)] h Q := by
  refine ci_wp rfl (Nat.le_of_ble_eq_true rfl) rfl (x_X12_isIn ⟨i.la.md.1, ?_⟩)
  have v := (i.ra.2 a ha).1
  rw [Nat.zero_add] at v
  rw [i.la.md.2.1, show (240 : Int32) = nI 240 from rfl, nI_add, cl_nI (show 240 + a < 2 ^ 31 by omega), v]
  refine ⟨4485, i.la.md.2.2, vp_nI (by omega) (by decide), ?_⟩
  obtain ⟨n1, n2⟩ := neg_m1 (ok.a.1.2.1 a ha)
  by_cases c : (sA s).2.1 a = -1
  · rw [if_pos c] at k; rw [if_pos (n2.mpr c)]; exact ⟨_, rfl, k⟩
  · rw [if_neg c] at k; rw [if_neg (fun q => c (n2.mp q))]; exact ⟨_, rfl, k⟩
end QB
