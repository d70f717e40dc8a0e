/-! THE REFERENCE reads an E: level by level -/
def CE (z : Nat → Int32) : Nat → List Op → Prop
  | _, [] => True
  | i, o :: r => z i = nI (o.1 + 16 * o.2) ∧ CE z (i + 1) r
theorem CE.same {z z' : Nat → Int32} : ∀ {ops : List Op} {i : Nat}, CE z i ops → (∀ j, j < i + ops.length → z' j = z j) → CE z' i ops
  | [], _, _, _ => trivial
  | o :: r, i, ⟨h1, h2⟩, e => ⟨(e i (by rw [List.length_cons]; omega)).trans h1, h2.same (fun j hj => e j (by rw [List.length_cons]; omega))⟩
theorem CE.app {z : Nat → Int32} : ∀ {a b : List Op} {i : Nat}, CE z i a → CE z (i + a.length) b → CE z i (a ++ b)
  | [], _, _, _, h => h
  | o :: r, b, i, ⟨h1, h2⟩, h => ⟨h1, h2.app (by rw [List.length_cons] at h; rw [show i + 1 + r.length = i + (r.length + 1) by omega]; exact h)⟩
def Sz (p : PS → PR) : Prop := ∀ s : PS, (p s).2.length + (p s).1.2.length ≤ s.2.length
theorem lpB_sz {p : PS → PR} {l : Nat} (h : Sz p) (l0 : 0 < l) : ∀ (n : Nat) (s : PS), (lpB p l n s).2.length + (lpB p l n s).1.2.length ≤ s.2.length
  | 0, s => by show 0 + s.2.length ≤ _; omega
  | n + 1, s => by
    rw [lpB]
    by_cases c : s.1 = 0 ∧ lvT s.2 = l
    · rw [if_pos c]
      have a := lpB_sz h l0 n (p (0, s.2.tail)).1
      have b := h (0, s.2.tail)
      have b : (p (0, s.2.tail)).2.length + (p (0, s.2.tail)).1.2.length ≤ s.2.tail.length := b
      have e : s.2.tail.length = s.2.length - 1 := List.length_tail
      have ne : s.2 ≠ [] := fun q => by
        have c2 := c.2
        rw [q] at c2
        have : (0 : Nat) = l := c2
        omega
      have := List.length_pos_iff.mpr ne
      show ((p (0, s.2.tail)).2 ++ (opT (hdT s.2), 0) :: (lpB p l n (p (0, s.2.tail)).1).2).length + (lpB p l n (p (0, s.2.tail)).1).1.2.length ≤ _
      rw [List.length_append, List.length_cons]
      omega
    · rw [if_neg c]; show 0 + s.2.length ≤ _; omega
theorem lvl_sz {p : PS → PR} {l : Nat} (h : Sz p) (l0 : 0 < l) : Sz (lvl p l) := by
  intro s
  have a := lpB_sz h l0 (if l = 2 then 1 else (p s).1.2.length) (p s).1
  have b := h s
  show ((p s).2 ++ _).length + _ ≤ _
  rw [List.length_append]
  have : (lvl p l s).1 = (lpB p l (if l = 2 then 1 else (p s).1.2.length) (p s).1).1 := rfl
  rw [this]
  omega
theorem prt_sz : ∀ D : Nat, Sz (prt D)
  | 0 => by
    intro s
    rw [prt]
    by_cases c : s.1 ≠ 0
    · rw [if_pos c]; show 0 + s.2.length ≤ _; omega
    · rw [if_neg c]; show 0 + s.2.length ≤ _; omega
  | D + 1 => by
    intro s
    have ih := prt_sz D
    rw [prt]
    by_cases c : s.1 ≠ 0
    · rw [if_pos c]; show 0 + s.2.length ≤ _; omega
    · rw [if_neg c]
      by_cases c1 : stT (hdT s.2) = false
      · rw [if_pos c1]; show 0 + s.2.length ≤ _; omega
      · rw [if_neg c1]
        have ne : s.2 ≠ [] := fun q => by
          rw [q] at c1
          exact c1 (by decide +kernel)
        have lp := List.length_pos_iff.mpr ne
        have e : s.2.tail.length = s.2.length - 1 := List.length_tail
        by_cases c2 : tW 16 (hdT s.2) = true
        · rw [if_pos c2]
          have a := ih (0, s.2.tail)
          have a : (prt D (0, s.2.tail)).2.length + (prt D (0, s.2.tail)).1.2.length ≤ s.2.tail.length := a
          show ((prt D (0, s.2.tail)).2 ++ [(3, 0)]).length + (prt D (0, s.2.tail)).1.2.length ≤ _
          rw [List.length_append, List.length_singleton]
          omega
        · rw [if_neg c2]
          by_cases c3 : tS 40 (hdT s.2) = true
          · rw [if_pos c3]
            have a := lvl_sz (l := 1) (lvl_sz (l := 2) (lvl_sz (l := 3) (lvl_sz (l := 4) ih (by decide)) (by decide)) (by decide)) (by decide) (0, s.2.tail)
            have a : (alo (prt D) (0, s.2.tail)).2.length + (alo (prt D) (0, s.2.tail)).1.2.length ≤ s.2.tail.length := a
            have b := (stp_sm (if tS 41 (hdT (alo (prt D) (0, s.2.tail)).1.2) = true then 0 else 1) (alo (prt D) (0, s.2.tail)).1).1
            show (alo (prt D) (0, s.2.tail)).2.length + (stp _ _).2.length ≤ _
            omega
          · rw [if_neg c3]
            show 1 + s.2.tail.length ≤ _
            omega
theorem tW_ne {w w' : Nat} {t : Tk} (h : tW w t = true) (hw : w ≠ w') : tW w' t = false := by
  unfold tW at *
  rw [Bool.and_eq_true, decide_eq_true_iff, decide_eq_true_iff] at h
  rw [h.2, decide_eq_false hw, Bool.and_false]
theorem op_is (t : Tk) : (tS 42 t = true → opT t = 6) ∧ (tS 43 t = true → opT t = 4) ∧ (tS 45 t = true → opT t = 5) ∧ (tS 60 t = true → opT t = 7) ∧ (tS 61 t = true → opT t = 8) ∧ (tW 17 t = true → opT t = 9) ∧ (tW 18 t = true → opT t = 10) := by
  refine ⟨fun q => ?_, fun q => ?_, fun q => ?_, fun q => ?_, fun q => ?_, fun q => if_pos q, fun q => ?_⟩
  · unfold opT; rw [tS_tW q, tS_tW q, tS_ne q (by decide), tS_ne q (by decide), tS_ne q (by decide), tS_ne q (by decide), q]; rfl
  · unfold opT; rw [tS_tW q, tS_tW q, tS_ne q (by decide), tS_ne q (by decide), q]; rfl
  · unfold opT; rw [tS_tW q, tS_tW q, tS_ne q (by decide), tS_ne q (by decide), tS_ne q (by decide), q]; rfl
  · unfold opT; rw [tS_tW q, tS_tW q, q]; rfl
  · unfold opT; rw [tS_tW q, tS_tW q, tS_ne q (by decide), q]; rfl
  · unfold opT; rw [tW_ne q (by decide), q]; rfl
theorem lv_is (t : Tk) : (lvK (opT t) = 4 ↔ tS 42 t = true) ∧ (lvK (opT t) = 3 ↔ (tS 43 t = true ∨ tS 45 t = true)) ∧ (lvK (opT t) = 2 ↔ (tS 60 t = true ∨ tS 61 t = true)) ∧ (lvK (opT t) = 1 ↔ (tW 17 t = true ∨ tW 18 t = true)) := by
  obtain ⟨i1, i2, i3, i4, i5, i6, i7⟩ := op_is t
  refine ⟨⟨fun q => ?_, fun q => by rw [i1 q]; rfl⟩, ⟨fun q => ?_, fun q => q.elim (fun q => by rw [i2 q]; rfl) (fun q => by rw [i3 q]; rfl)⟩, ⟨fun q => ?_, fun q => q.elim (fun q => by rw [i4 q]; rfl) (fun q => by rw [i5 q]; rfl)⟩, ⟨fun q => ?_, fun q => q.elim (fun q => by rw [i6 q]; rfl) (fun q => by rw [i7 q]; rfl)⟩⟩
  all_goals
    rcases opT_cases t with ⟨a, e⟩ | ⟨_, a, e⟩ | ⟨_, _, c3⟩
    · rw [e] at q
      first
        | exact Or.inl a
        | exact absurd q (by decide)
    · rw [e] at q
      first
        | exact absurd q (by decide)
        | exact Or.inr a
    · rcases c3 with ⟨a, e⟩ | ⟨a, e⟩ | ⟨a, e⟩ | ⟨a, e⟩ | ⟨a, e⟩ | ⟨_, _, _, _, _, e⟩ <;> rw [e] at q
      all_goals first
        | exact absurd q (by decide)
        | exact a
        | exact Or.inl a
        | exact Or.inr a
def PtR (G : pm_G) (D : Nat) (mi : pm_I) (dep : Int32) (L : List Tk) (p : PS → PR) : Prop := ∀ (h : pm_H) (s : PS) (c : Nat) (Q : pm_H → Prop), La h → RS h L s → gi h 446 12 = nI c → c + s.2.length ≤ 1090 →
  (∀ h', FrE (1100 + c) h h' → RS h' L (p s).1 → gi h' 446 12 = nI (c + (p s).2.length) → CE (gi h' 453) (1100 + c) (p s).2 → Q h') → cv G D mi [.ref 446, .int dep] h Q
section RLV
variable {G : pm_G} {d : Nat} {L : List Tk}
/-- behind a part: what joined it is told -/
theorem r_joined {h h1 : pm_H} {c : Nat} {s : PS} {o1 : List Op} {k : Nat} (hF : FrE (1100 + c) h h1) (hR : RS h1 L s) (hc : gi h1 446 12 = nI (c + o1.length)) (hE : CE (gi h1 453) (1100 + c) o1) : FrE (1100 + c) h (si (si h1 453 (1100 + (c + o1.length)) (nI (k + 16 * 0))) 446 12 (nI (c + o1.length + 1))) ∧ RS (si (si h1 453 (1100 + (c + o1.length)) (nI (k + 16 * 0))) 446 12 (nI (c + o1.length + 1))) L s ∧ gi (si (si h1 453 (1100 + (c + o1.length)) (nI (k + 16 * 0))) 446 12 (nI (c + o1.length + 1))) 446 12 = nI (c + (o1 ++ [(k, 0)]).length) ∧ CE (gi (si (si h1 453 (1100 + (c + o1.length)) (nI (k + 16 * 0))) 446 12 (nI (c + o1.length + 1))) 453) (1100 + c) (o1 ++ [(k, 0)]) := by
  have f2 : FrE (1100 + (c + o1.length)) h1 (si (si h1 453 (1100 + (c + o1.length)) (nI (k + 16 * 0))) 446 12 (nI (c + o1.length + 1))) := FrE.wc.trans (FrE.wi (Or.inr (Or.inr rfl))) (Nat.le_refl _)
  refine ⟨hF.trans f2 (by omega), hR.keep f2.1 rfl rfl, ?_, ?_⟩
  · rw [List.length_append, List.length_singleton]; rfl
  · refine CE.app (hE.same (fun j hj => f2.2.2.2.2 j (by omega))) ⟨?_, trivial⟩
    exact if_pos (Nat.add_assoc _ _ _)
theorem r_products {p : PS → PR} {dep : Int32} (hp : PtR G (d + 2) m_X12_takePart dep L p) (hs : Sm p) (hz : Sz p) : PtR G (d + 3) m_X12_products dep L (lvl p 4) := by
  intro h s c Q hL hR hc hb k
  refine cv_wp rfl (Nat.le_of_ble_eq_true rfl) rfl (x_X12_products ⟨hL.md.1, hp h s c _ hL hR hc hb (fun h1 f1 r1 c1 e1 => ?_)⟩)
  have key : ∀ (n : Nat) (s1 : PS) (o1 : List Op) (h1 : pm_H), s1.2.length ≤ n → FrE (1100 + c) h h1 → RS h1 L s1 → gi h1 446 12 = nI (c + o1.length) → CE (gi h1 453) (1100 + c) o1 → c + o1.length + s1.2.length ≤ 1090 → (∀ h', FrE (1100 + c) h h' → RS h' L (lpB p 4 n s1).1 → gi h' 446 12 = nI (c + (o1 ++ (lpB p 4 n s1).2).length) → CE (gi h' 453) (1100 + c) (o1 ++ (lpB p 4 n s1).2) → Q h') → Wp G (m_X12_products, d + 3, 0, 0, fun v h1 => v = none ∧ Q h1) (0, 0) 5 [.ref 446, .int dep] [] h1 := by
    intro n
    induction n with
    | zero =>
      intro s1 o1 h1 hn f1 r1 c1 e1 b1 k
      have := r1.2.2.2.1.at.2.2
      omega
    | succ n ih =>
      intro s1 o1 h1 hn f1 r1 c1 e1 b1 k
      have hL1 := f1.1.la hL
      rw [lpB] at k
      have lv : lvT s1.2 = 4 ↔ tS 42 (hdT s1.2) = true := (lv_is _).1
      refine x_X12_products_5 ⟨hL1.md.1, r_hasSign (d := d) (e := 1100 + (c + o1.length)) (c := 42) hL1 r1 (by decide) (fun f0 t0 h2 f2 r2 c2 e2 => ?_) (fun nf h2 f2 r2 c2 e2 => ?_)⟩
      · rw [if_pos ⟨f0, lv.mpr t0⟩] at k
        rw [if_neg (show ¬ (1 : Int32) = 0 by decide)]
        have hL2 := f2.1.la hL1
        have tl : s1.2.tail.length = s1.2.length - 1 := List.length_tail
        have t0' := r1.2.2.2.1.at.2.2
        have z := hz (0, s1.2.tail)
        have z : (p (0, s1.2.tail)).2.length + (p (0, s1.2.tail)).1.2.length ≤ s1.2.tail.length := z
        refine ⟨hL2.md.1, hp h2 _ (c + o1.length) _ hL2 r2 (c2.trans c1) (by show c + o1.length + s1.2.tail.length ≤ 1090; omega) (fun h3 f3 r3 c3 e3 => ?_)⟩
        have hL3 := f3.1.la hL2
        have f13 : FrE (1100 + c) h h3 := f1.trans (f2.trans f3 (Nat.le_refl _)) (by omega)
        have e13 : CE (gi h3 453) (1100 + c) (o1 ++ (p (0, s1.2.tail)).2) := CE.app (e1.same (fun j hj => ((f2.trans f3 (Nat.le_refl _)).2.2.2.2 j (by omega)))) (by rw [Nat.add_assoc]; exact e3)
        have c13 : gi h3 446 12 = nI (c + (o1 ++ (p (0, s1.2.tail)).2).length) := by rw [List.length_append, ← Nat.add_assoc]; exact c3
        refine ⟨hL3.md.1, r_emit (d := d + 1) (o := 6) (a := 0) hL3 c13 (by rw [List.length_append]; omega) ?_⟩
        obtain ⟨g1, g2, g3, g4⟩ := r_joined (k := 6) f13 r3 c13 e13
        refine ih (p (0, s1.2.tail)).1 _ _ (by omega) g1 g2 g3 g4 (by rw [List.length_append, List.length_append, List.length_singleton]; omega) (fun h' a1 a2 a3 a4 => ?_)
        have eo : o1 ++ (p (0, s1.2.tail)).2 ++ [(6, 0)] ++ (lpB p 4 n (p (0, s1.2.tail)).1).2 = o1 ++ ((p (0, s1.2.tail)).2 ++ (opT (hdT s1.2), 0) :: (lpB p 4 n (p (0, s1.2.tail)).1).2) := by rw [(op_is (hdT s1.2)).1 t0]; simp
        rw [eo] at a3 a4
        exact k h' a1 a2 a3 a4
      · rw [if_neg (fun q => nf ⟨q.1, lv.mp q.2⟩)] at k
        rw [if_pos rfl]
        refine ⟨rfl, k h2 (f1.trans f2 (by omega)) r2 ?_ ?_⟩
        · show gi h2 446 12 = nI (c + (o1 ++ []).length)
          rw [List.append_nil]; exact c2.trans c1
        · show CE (gi h2 453) (1100 + c) (o1 ++ [])
          rw [List.append_nil, e2]; exact e1
  have z := hz s
  refine key (p s).1.2.length (p s).1 (p s).2 h1 (Nat.le_refl _) f1 r1 c1 e1 (by omega) (fun h' a1 a2 a3 a4 => ?_)
  exact k h' a1 a2 a3 a4
theorem r_sums {p : PS → PR} {dep : Int32} (hp : PtR G (d + 3) m_X12_products dep L p) (hs : Sm p) (hz : Sz p) : PtR G (d + 4) m_X12_sums dep L (lvl p 3) := by
  intro h s c Q hL hR hc hb k
  refine cv_wp rfl (Nat.le_of_ble_eq_true rfl) rfl (x_X12_sums ⟨hL.md.1, hp h s c _ hL hR hc hb (fun h1 f1 r1 c1 e1 => ?_)⟩)
  have key : ∀ (n : Nat) (s1 : PS) (o1 : List Op) (h1 : pm_H), s1.2.length ≤ n → FrE (1100 + c) h h1 → RS h1 L s1 → gi h1 446 12 = nI (c + o1.length) → CE (gi h1 453) (1100 + c) o1 → c + o1.length + s1.2.length ≤ 1090 → (∀ h', FrE (1100 + c) h h' → RS h' L (lpB p 3 n s1).1 → gi h' 446 12 = nI (c + (o1 ++ (lpB p 3 n s1).2).length) → CE (gi h' 453) (1100 + c) (o1 ++ (lpB p 3 n s1).2) → Q h') → Wp G (m_X12_sums, d + 4, 0, 0, fun v h1 => v = none ∧ Q h1) (0, 0) 5 [.ref 446, .int dep, .null] [] h1 := by
    intro n
    induction n with
    | zero =>
      intro s1 o1 h1 hn f1 r1 c1 e1 b1 k
      have := r1.2.2.2.1.at.2.2
      omega
    | succ n ih =>
      intro s1 o1 h1 hn f1 r1 c1 e1 b1 k
      have hL1 := f1.1.la hL
      rw [lpB] at k
      have lv : lvT s1.2 = 3 ↔ (tS 43 (hdT s1.2) = true ∨ tS 45 (hdT s1.2) = true) := (lv_is _).2.1
      have run : s1.1 = 0 → (tS 43 (hdT s1.2) = true ∨ tS 45 (hdT s1.2) = true) → Wp G (m_X12_sums, d + 4, 0, 0, fun v h1 => v = none ∧ Q h1) (0, 0) 23 [.ref 446, .int dep, .null] [] h1 := by
        intro f0 t0
        rw [if_pos ⟨f0, lv.mpr t0⟩] at k
        have so : (hdT s1.2).2.1 ≠ 0 := t0.elim (fun q => by rw [tS_sort q]; decide) (fun q => by rw [tS_sort q]; decide)
        obtain ⟨f2, r2⟩ := r1.go1 (c := 1100 + (c + o1.length)) f0 so
        have hL2 := f2.1.la hL1
        have tl : s1.2.tail.length = s1.2.length - 1 := List.length_tail
        have t0' := r1.2.2.2.1.at.2.2
        have z := hz (0, s1.2.tail)
        have z : (p (0, s1.2.tail)).2.length + (p (0, s1.2.tail)).1.2.length ≤ s1.2.tail.length := z
        refine x_X12_sums_23 ⟨hL1.md.1, r_isSign (d := d + 2) (c := 43) hL1 r1 (by decide) ⟨hL1.md.1, ?_⟩⟩
        rintro _ rfl
        refine hp _ _ (c + o1.length) _ hL2 r2 c1 (by show c + o1.length + s1.2.tail.length ≤ 1090; omega) (fun h3 f3 r3 c3 e3 => ?_)
        have hL3 := f3.1.la hL2
        have f13 : FrE (1100 + c) h h3 := f1.trans (f2.trans f3 (Nat.le_refl _)) (by omega)
        have e13 : CE (gi h3 453) (1100 + c) (o1 ++ (p (0, s1.2.tail)).2) := CE.app (e1.same (fun j hj => ((f2.trans f3 (Nat.le_refl _)).2.2.2.2 j (by omega)))) (by rw [Nat.add_assoc]; exact e3)
        have c13 : gi h3 446 12 = nI (c + (o1 ++ (p (0, s1.2.tail)).2).length) := by rw [List.length_append, ← Nat.add_assoc]; exact c3
        have fin : ∀ kk, opT (hdT s1.2) = kk → Wp G (m_X12_sums, d + 4, 0, 0, fun v h1 => v = none ∧ Q h1) (0, 0) 5 [.ref 446, .int dep, .null] [] (si (si h3 453 (1100 + (c + (o1 ++ (p (0, s1.2.tail)).2).length)) (nI (kk + 16 * 0))) 446 12 (nI (c + (o1 ++ (p (0, s1.2.tail)).2).length + 1))) := by
          intro kk ek
          obtain ⟨g1, g2, g3, g4⟩ := r_joined (k := kk) f13 r3 c13 e13
          refine ih (p (0, s1.2.tail)).1 _ _ (by omega) g1 g2 g3 g4 (by rw [List.length_append, List.length_append, List.length_singleton]; omega) (fun h' a1 a2 a3 a4 => ?_)
          have eo : o1 ++ (p (0, s1.2.tail)).2 ++ [(kk, 0)] ++ (lpB p 3 n (p (0, s1.2.tail)).1).2 = o1 ++ ((p (0, s1.2.tail)).2 ++ (opT (hdT s1.2), 0) :: (lpB p 3 n (p (0, s1.2.tail)).1).2) := by rw [ek]; simp
          rw [eo] at a3 a4
          exact k h' a1 a2 a3 a4
        rw [decide_eq_true f0, Bool.true_and]
        by_cases t1 : tS 43 (hdT s1.2) = true
        · rw [t1, if_neg (show ¬ b2i true = 0 by decide)]
          exact ⟨hL3.md.1, r_emit (d := d + 2) (o := 4) (a := 0) hL3 c13 (by rw [List.length_append]; omega) (fin 4 ((op_is (hdT s1.2)).2.1 t1))⟩
        · rw [show tS 43 (hdT s1.2) = false by simpa using t1, if_pos (show b2i false = 0 from rfl)]
          exact ⟨hL3.md.1, r_emit (d := d + 2) (o := 5) (a := 0) hL3 c13 (by rw [List.length_append]; omega) (fin 5 ((op_is (hdT s1.2)).2.2.1 (t0.resolve_left t1)))⟩
      have stop : ¬ (s1.1 = 0 ∧ (tS 43 (hdT s1.2) = true ∨ tS 45 (hdT s1.2) = true)) → Q h1 := by
        intro nf
        rw [if_neg (fun q => nf ⟨q.1, lv.mp q.2⟩)] at k
        refine k h1 f1 r1 ?_ ?_
        · show gi h1 446 12 = nI (c + (o1 ++ []).length)
          rw [List.append_nil]; exact c1
        · show CE (gi h1 453) (1100 + c) (o1 ++ [])
          rw [List.append_nil]; exact e1
      refine x_X12_sums_5 ⟨hL1.md.1, r_isSign (d := d + 2) (c := 43) hL1 r1 (by decide) ?_⟩
      by_cases f0 : s1.1 = 0
      · rw [decide_eq_true f0, Bool.true_and]
        by_cases t1 : tS 43 (hdT s1.2) = true
        · rw [t1, if_neg (show ¬ b2i true = 0 by decide)]
          exact run f0 (Or.inl t1)
        · rw [show tS 43 (hdT s1.2) = false by simpa using t1, if_pos (show b2i false = 0 from rfl)]
          refine ⟨hL1.md.1, r_isSign (d := d + 2) (c := 45) hL1 r1 (by decide) ?_⟩
          rw [decide_eq_true f0, Bool.true_and]
          by_cases t2 : tS 45 (hdT s1.2) = true
          · rw [t2, if_neg (show ¬ b2i true = 0 by decide)]
            exact run f0 (Or.inr t2)
          · rw [show tS 45 (hdT s1.2) = false by simpa using t2, if_pos (show b2i false = 0 from rfl)]
            exact ⟨rfl, stop (fun q => q.2.elim t1 t2)⟩
      · rw [decide_eq_false f0, Bool.false_and, if_pos (show b2i false = 0 from rfl)]
        refine ⟨hL1.md.1, r_isSign (d := d + 2) (c := 45) hL1 r1 (by decide) ?_⟩
        rw [decide_eq_false f0, Bool.false_and, if_pos (show b2i false = 0 from rfl)]
        exact ⟨rfl, stop (fun q => f0 q.1)⟩
  have z := hz s
  refine key (p s).1.2.length (p s).1 (p s).2 h1 (Nat.le_refl _) f1 r1 c1 e1 (by omega) (fun h' a1 a2 a3 a4 => ?_)
  exact k h' a1 a2 a3 a4
theorem r_allOf {p : PS → PR} {dep : Int32} (hp : PtR G (d + 5) m_X12_test dep L p) (hs : Sm p) (hz : Sz p) : PtR G (d + 6) m_X12_allOf dep L (lvl p 1) := by
  intro h s c Q hL hR hc hb k
  refine cv_wp rfl (Nat.le_of_ble_eq_true rfl) rfl (x_X12_allOf ⟨hL.md.1, hp h s c _ hL hR hc hb (fun h1 f1 r1 c1 e1 => ?_)⟩)
  have key : ∀ (n : Nat) (s1 : PS) (o1 : List Op) (h1 : pm_H), s1.2.length ≤ n → FrE (1100 + c) h h1 → RS h1 L s1 → gi h1 446 12 = nI (c + o1.length) → CE (gi h1 453) (1100 + c) o1 → c + o1.length + s1.2.length ≤ 1090 → (∀ h', FrE (1100 + c) h h' → RS h' L (lpB p 1 n s1).1 → gi h' 446 12 = nI (c + (o1 ++ (lpB p 1 n s1).2).length) → CE (gi h' 453) (1100 + c) (o1 ++ (lpB p 1 n s1).2) → Q h') → Wp G (m_X12_allOf, d + 6, 0, 0, fun v h1 => v = none ∧ Q h1) (0, 0) 5 [.ref 446, .int dep, .null] [] h1 := by
    intro n
    induction n with
    | zero =>
      intro s1 o1 h1 hn f1 r1 c1 e1 b1 k
      have := r1.2.2.2.1.at.2.2
      omega
    | succ n ih =>
      intro s1 o1 h1 hn f1 r1 c1 e1 b1 k
      have hL1 := f1.1.la hL
      rw [lpB] at k
      have lv : lvT s1.2 = 1 ↔ (tW 17 (hdT s1.2) = true ∨ tW 18 (hdT s1.2) = true) := (lv_is _).2.2.2
      have run : s1.1 = 0 → (tW 17 (hdT s1.2) = true ∨ tW 18 (hdT s1.2) = true) → Wp G (m_X12_allOf, d + 6, 0, 0, fun v h1 => v = none ∧ Q h1) (0, 0) 23 [.ref 446, .int dep, .null] [] h1 := by
        intro f0 t0
        rw [if_pos ⟨f0, lv.mpr t0⟩] at k
        have so : (hdT s1.2).2.1 ≠ 0 := t0.elim (fun q => by rw [tW_sort q]; decide) (fun q => by rw [tW_sort q]; decide)
        obtain ⟨f2, r2⟩ := r1.go1 (c := 1100 + (c + o1.length)) f0 so
        have hL2 := f2.1.la hL1
        have tl : s1.2.tail.length = s1.2.length - 1 := List.length_tail
        have t0' := r1.2.2.2.1.at.2.2
        have z := hz (0, s1.2.tail)
        have z : (p (0, s1.2.tail)).2.length + (p (0, s1.2.tail)).1.2.length ≤ s1.2.tail.length := z
        refine x_X12_allOf_23 ⟨hL1.md.1, r_isWord (d := d + 4) (w := 16) hL1 r1 (by decide) ⟨hL1.md.1, ?_⟩⟩
        rintro _ rfl
        refine hp _ _ (c + o1.length) _ hL2 r2 c1 (by show c + o1.length + s1.2.tail.length ≤ 1090; omega) (fun h3 f3 r3 c3 e3 => ?_)
        have hL3 := f3.1.la hL2
        have f13 : FrE (1100 + c) h h3 := f1.trans (f2.trans f3 (Nat.le_refl _)) (by omega)
        have e13 : CE (gi h3 453) (1100 + c) (o1 ++ (p (0, s1.2.tail)).2) := CE.app (e1.same (fun j hj => ((f2.trans f3 (Nat.le_refl _)).2.2.2.2 j (by omega)))) (by rw [Nat.add_assoc]; exact e3)
        have c13 : gi h3 446 12 = nI (c + (o1 ++ (p (0, s1.2.tail)).2).length) := by rw [List.length_append, ← Nat.add_assoc]; exact c3
        have fin : ∀ kk, opT (hdT s1.2) = kk → Wp G (m_X12_allOf, d + 6, 0, 0, fun v h1 => v = none ∧ Q h1) (0, 0) 5 [.ref 446, .int dep, .null] [] (si (si h3 453 (1100 + (c + (o1 ++ (p (0, s1.2.tail)).2).length)) (nI (kk + 16 * 0))) 446 12 (nI (c + (o1 ++ (p (0, s1.2.tail)).2).length + 1))) := by
          intro kk ek
          obtain ⟨g1, g2, g3, g4⟩ := r_joined (k := kk) f13 r3 c13 e13
          refine ih (p (0, s1.2.tail)).1 _ _ (by omega) g1 g2 g3 g4 (by rw [List.length_append, List.length_append, List.length_singleton]; omega) (fun h' a1 a2 a3 a4 => ?_)
          have eo : o1 ++ (p (0, s1.2.tail)).2 ++ [(kk, 0)] ++ (lpB p 1 n (p (0, s1.2.tail)).1).2 = o1 ++ ((p (0, s1.2.tail)).2 ++ (opT (hdT s1.2), 0) :: (lpB p 1 n (p (0, s1.2.tail)).1).2) := by rw [ek]; simp
          rw [eo] at a3 a4
          exact k h' a1 a2 a3 a4
        rw [decide_eq_true f0, Bool.true_and]
        by_cases t1 : tW 17 (hdT s1.2) = true
        · rw [show rwd 16 = 17 from rfl, t1, if_neg (show ¬ b2i true = 0 by decide)]
          exact ⟨hL3.md.1, r_emit (d := d + 4) (o := 9) (a := 0) hL3 c13 (by rw [List.length_append]; omega) (fin 9 ((op_is (hdT s1.2)).2.2.2.2.2.1 t1))⟩
        · rw [show rwd 16 = 17 from rfl, show tW 17 (hdT s1.2) = false by simpa using t1, if_pos (show b2i false = 0 from rfl)]
          exact ⟨hL3.md.1, r_emit (d := d + 4) (o := 10) (a := 0) hL3 c13 (by rw [List.length_append]; omega) (fin 10 ((op_is (hdT s1.2)).2.2.2.2.2.2 (t0.resolve_left t1)))⟩
      have stop : ¬ (s1.1 = 0 ∧ (tW 17 (hdT s1.2) = true ∨ tW 18 (hdT s1.2) = true)) → Q h1 := by
        intro nf
        rw [if_neg (fun q => nf ⟨q.1, lv.mp q.2⟩)] at k
        refine k h1 f1 r1 ?_ ?_
        · show gi h1 446 12 = nI (c + (o1 ++ []).length)
          rw [List.append_nil]; exact c1
        · show CE (gi h1 453) (1100 + c) (o1 ++ [])
          rw [List.append_nil]; exact e1
      refine x_X12_allOf_5 ⟨hL1.md.1, r_isWord (d := d + 4) (w := 16) hL1 r1 (by decide) ?_⟩
      by_cases f0 : s1.1 = 0
      · rw [decide_eq_true f0, Bool.true_and]
        by_cases t1 : tW 17 (hdT s1.2) = true
        · rw [show rwd 16 = 17 from rfl, t1, if_neg (show ¬ b2i true = 0 by decide)]
          exact run f0 (Or.inl t1)
        · rw [show rwd 16 = 17 from rfl, show tW 17 (hdT s1.2) = false by simpa using t1, if_pos (show b2i false = 0 from rfl)]
          refine ⟨hL1.md.1, r_isWord (d := d + 4) (w := 17) hL1 r1 (by decide) ?_⟩
          rw [decide_eq_true f0, Bool.true_and]
          by_cases t2 : tW 18 (hdT s1.2) = true
          · rw [show rwd 17 = 18 from rfl, t2, if_neg (show ¬ b2i true = 0 by decide)]
            exact run f0 (Or.inr t2)
          · rw [show rwd 17 = 18 from rfl, show tW 18 (hdT s1.2) = false by simpa using t2, if_pos (show b2i false = 0 from rfl)]
            exact ⟨rfl, stop (fun q => q.2.elim t1 t2)⟩
      · rw [decide_eq_false f0, Bool.false_and, if_pos (show b2i false = 0 from rfl)]
        refine ⟨hL1.md.1, r_isWord (d := d + 4) (w := 17) hL1 r1 (by decide) ?_⟩
        rw [decide_eq_false f0, Bool.false_and, if_pos (show b2i false = 0 from rfl)]
        exact ⟨rfl, stop (fun q => f0 q.1)⟩
  have z := hz s
  refine key (p s).1.2.length (p s).1 (p s).2 h1 (Nat.le_refl _) f1 r1 c1 e1 (by omega) (fun h' a1 a2 a3 a4 => ?_)
  exact k h' a1 a2 a3 a4
theorem r_test {p : PS → PR} {dep : Int32} (hp : PtR G (d + 4) m_X12_sums dep L p) (hs : Sm p) (hz : Sz p) : PtR G (d + 5) m_X12_test dep L (lvl p 2) := by
  intro h s c Q hL hR hc hb k
  unfold lvl at k
  rw [if_pos rfl, lpB] at k
  refine cv_wp rfl (Nat.le_of_ble_eq_true rfl) rfl (x_X12_test ⟨hL.md.1, hp h s c _ hL hR hc hb (fun h1 f1 r1 c1 e1 => ?_)⟩)
  have hL1 := f1.1.la hL
  generalize hs1 : (p s).1 = s1 at *
  generalize ho1 : (p s).2 = o1 at *
  have z0 := hz s
  rw [ho1, hs1] at z0
  have lv : lvT s1.2 = 2 ↔ (tS 60 (hdT s1.2) = true ∨ tS 61 (hdT s1.2) = true) := (lv_is _).2.2.1
  refine ⟨hL1.md.1, r_isSign (d := d + 3) (c := 60) hL1 r1 (by decide) ⟨hL1.md.1, ?_⟩⟩
  have run : ∀ (h2 : pm_H) (r3 : Int32) (kk : Nat), s1.1 = 0 → (tS 60 (hdT s1.2) = true ∨ tS 61 (hdT s1.2) = true) → opT (hdT s1.2) = kk → (r3 = 0 ∧ kk = 8 ∨ r3 ≠ 0 ∧ kk = 7) → FrE (1100 + (c + o1.length)) h1 h2 → RS h2 L (0, s1.2.tail) → gi h2 446 12 = gi h1 446 12 → (h2.1[446]? = some (0, 11)) ∧ cv G (d + 4) m_X12_sums [.ref 446, .int dep] h2 (fun h10 => if r3 = 0 then ((h10.1[446]? = some (0, 11)) ∧ cv G (d + 4) m_X12_emit [.ref 446, .int 8, .int 0] h10 fun h12 => ((none : Option Value) = none ∧ Q h12)) else ((h10.1[446]? = some (0, 11)) ∧ cv G (d + 4) m_X12_emit [.ref 446, .int 7, .int 0] h10 fun h14 => ((none : Option Value) = none ∧ Q h14))) := by
    intro h2 r3 kk f0 t0 ek er f2 r2 c2
    rw [if_pos ⟨f0, lv.mpr t0⟩] at k
    have hL2 := f2.1.la hL1
    have tl : s1.2.tail.length = s1.2.length - 1 := List.length_tail
    have t0' := r1.2.2.2.1.at.2.2
    have z := hz (0, s1.2.tail)
    have z : (p (0, s1.2.tail)).2.length + (p (0, s1.2.tail)).1.2.length ≤ s1.2.tail.length := z
    refine ⟨hL2.md.1, hp h2 _ (c + o1.length) _ hL2 r2 (c2.trans c1) (by show c + o1.length + s1.2.tail.length ≤ 1090; omega) (fun h3 f3 r3' c3 e3 => ?_)⟩
    have hL3 := f3.1.la hL2
    have f13 : FrE (1100 + c) h h3 := f1.trans (f2.trans f3 (Nat.le_refl _)) (by omega)
    have e13 : CE (gi h3 453) (1100 + c) (o1 ++ (p (0, s1.2.tail)).2) := CE.app (e1.same (fun j hj => ((f2.trans f3 (Nat.le_refl _)).2.2.2.2 j (by omega)))) (by rw [Nat.add_assoc]; exact e3)
    have c13 : gi h3 446 12 = nI (c + (o1 ++ (p (0, s1.2.tail)).2).length) := by rw [List.length_append, ← Nat.add_assoc]; exact c3
    obtain ⟨g1, g2, g3, g4⟩ := r_joined (k := kk) f13 r3' c13 e13
    have eo : o1 ++ (p (0, s1.2.tail)).2 ++ [(kk, 0)] = o1 ++ ((p (0, s1.2.tail)).2 ++ (opT (hdT s1.2), 0) :: (lpB p 2 0 (p (0, s1.2.tail)).1).2) := by rw [ek, List.append_assoc]; rfl
    rw [eo] at g3 g4
    have fin := k _ g1 g2 g3 g4
    rcases er with ⟨e0, e8⟩ | ⟨e0, e7⟩
    · subst e8
      rw [if_pos e0]
      exact ⟨hL3.md.1, r_emit (d := d + 3) (o := 8) (a := 0) hL3 c13 (by rw [List.length_append]; omega) ⟨rfl, fin⟩⟩
    · subst e7
      rw [if_neg e0]
      exact ⟨hL3.md.1, r_emit (d := d + 3) (o := 7) (a := 0) hL3 c13 (by rw [List.length_append]; omega) ⟨rfl, fin⟩⟩
  refine r_hasSign (d := d + 2) (e := 1100 + (c + o1.length)) (c := 60) hL1 r1 (by decide) (fun f0 t0 h2 f2 r2 c2 e2 => ?_) (fun nf h2 f2 r2 c2 e2 => ?_)
  · rw [if_neg (show ¬ (1 : Int32) = 0 by decide)]
    exact run h2 _ 7 f0 (Or.inl t0) ((op_is _).2.2.2.1 t0) (Or.inr ⟨by rw [decide_eq_true f0, t0]; decide, rfl⟩) f2 r2 c2
  · rw [if_pos rfl]
    have hL2 := f2.1.la hL1
    refine ⟨hL2.md.1, r_hasSign (d := d + 2) (e := 1100 + (c + o1.length)) (c := 61) hL2 r2 (by decide) (fun f0 t0 h3 f3 r3 c3 e3 => ?_) (fun nf2 h3 f3 r3 c3 e3 => ?_)⟩
    · rw [if_neg (show ¬ (1 : Int32) = 0 by decide)]
      exact run h3 _ 8 f0 (Or.inr t0) ((op_is _).2.2.2.2.1 t0) (Or.inl ⟨by rw [tS_ne t0 (by decide), Bool.and_false]; rfl, rfl⟩) (f2.trans f3 (Nat.le_refl _)) r3 (c3.trans c2)
    · rw [if_pos rfl]
      rw [if_neg (fun q => (lv.mp q.2).elim (fun z => nf ⟨q.1, z⟩) (fun z => nf2 ⟨q.1, z⟩))] at k
      refine ⟨rfl, k h3 (f1.trans (f2.trans f3 (Nat.le_refl _)) (by omega)) r3 ?_ ?_⟩
      · show gi h3 446 12 = nI (c + (o1 ++ []).length)
        rw [List.append_nil]; exact (c3.trans c2).trans c1
      · show CE (gi h3 453) (1100 + c) (o1 ++ [])
        rw [List.append_nil, e3, e2]; exact e1
end RLV
