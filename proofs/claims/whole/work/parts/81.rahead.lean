/-! THE REFERENCE: who stands ahead, SELECT; what comes of one and the same order -/
/-- whether one ITEM stands ahead of another one by KEYS, as the reference sees it -/
def ahR (ky : Nat → Int32) (t o : Nat) : Bool := rLt ky t o || (decide (ky t = ky o) && decide (t < o))
theorem ahR_iff {ky : Nat → Int32} {t o : Nat} : ahR ky t o = true ↔ (ky t).toInt < (ky o).toInt ∨ ((ky t).toInt = (ky o).toInt ∧ t < o) := by
  unfold ahR rLt
  rw [Bool.or_eq_true, Bool.and_eq_true, decide_eq_true_iff, decide_eq_true_iff, decide_eq_true_iff, i_lt, i_eq]
theorem cnt_mono {p q : Nat → Bool} : ∀ {n : Nat}, (∀ j, j < n → p j = true → q j = true) → cnt p n ≤ cnt q n
  | 0, _ => Nat.le_refl _
  | n + 1, h => by
    have := cnt_mono (n := n) fun j hj => h j (by omega)
    cases e : p n with
    | false =>
      rw [cnt_skip e]
      exact Nat.le_trans this (by show cnt q n ≤ cnt q n + _; omega)
    | true => rw [cnt_step e, cnt_step (h n (Nat.lt_succ_self _) e)]; omega
theorem cnt_lt {p q : Nat → Bool} {x : Nat} : ∀ {n : Nat}, (∀ j, j < n → p j = true → q j = true) → x < n → p x = false → q x = true → cnt p n < cnt q n
  | 0, _, h, _, _ => absurd h (Nat.not_lt_zero _)
  | n + 1, h, hx, h1, h2 => by
    have m := cnt_mono (p := p) (q := q) (n := n) fun j hj => h j (by omega)
    by_cases e : x = n
    · subst e; rw [cnt_skip h1, cnt_step h2]; omega
    · have := cnt_lt (p := p) (q := q) (n := n) (fun j hj => h j (by omega)) (by omega) h1 h2
      cases e2 : p n with
      | false =>
        rw [cnt_skip e2]
        exact Nat.lt_of_lt_of_le this (by show cnt q n ≤ cnt q n + _; omega)
      | true => rw [cnt_step e2, cnt_step (h n (Nat.lt_succ_self _) e2)]; omega
/-- no two ITEMS of a HEAP have one place -/
theorem selP_one {ky : Nat → Int32} {hp : Nat → Int32} {x i : Int32} {t u : Nat} (ht : t < 20) (hu : u < 20) (h1 : selP (ahR ky) hp x i t = true) (h2 : selP (ahR ky) hp x i u = true) : t = u := by
  unfold selP at h1 h2
  rw [Bool.and_eq_true, decide_eq_true_iff, decide_eq_true_iff] at h1 h2
  have l1 := cnt_le (fun w => decide (hp w = x) && ahR ky w t) 20
  have l2 := cnt_le (fun w => decide (hp w = x) && ahR ky w u) 20
  have e : cnt (fun w => decide (hp w = x) && ahR ky w t) 20 = cnt (fun w => decide (hp w = x) && ahR ky w u) 20 := by
    have := congrArg Int32.toInt (h1.2.trans h2.2.symm)
    rw [nI_toInt (by omega), nI_toInt (by omega)] at this
    omega
  have key : ∀ a b, a < 20 → hp a = x → ahR ky a b = true → cnt (fun w => decide (hp w = x) && ahR ky w a) 20 < cnt (fun w => decide (hp w = x) && ahR ky w b) 20 := by
    intro a b ha hpa hab
    refine cnt_lt (x := a) (fun j _ hj => ?_) ha ?_ ?_
    · rw [Bool.and_eq_true] at hj ⊢
      refine ⟨hj.1, ?_⟩
      have c1 := ahR_iff.mp hj.2
      have c2 := ahR_iff.mp hab
      exact ahR_iff.mpr (by omega)
    · have : ahR ky a a = false := by
        cases c : ahR ky a a with
        | false => rfl
        | true => have := ahR_iff.mp c; omega
      show (_ && _) = false
      rw [this, Bool.and_false]
    · show (_ && _) = true
      rw [hab, decide_eq_true hpa]; rfl
  by_cases c : ahR ky t u = true
  · have := key t u ht h1.1 c; omega
  · by_cases c2 : ahR ky u t = true
    · have := key u t hu h2.1 c2; omega
    · rw [ahR_iff] at c c2
      omega
section RAH
variable {G : pm_G} {d : Nat} {h : pm_H} {S F P : Nat → Int32}
theorem r_isAhead {t o : Nat} {Q : Int32 → pm_H → Prop} (hM : Mk h) (ht : t < 20) (ho : o < 20) (k : Q (b2i (ahR (gi h 460) t o)) (s8 (fp h F P) S)) : ci G (d + 1) m_X12_isAhead [.ref 446, .int (nI t), .int (nI o)] (s8 (fp h F P) S) Q := by
  refine ci_wp rfl (Nat.le_of_ble_eq_true rfl) rfl (x_X12_isAhead ?_)
  have g21 : gp (s8 (fp h F P) S) 446 21 = 460 := hM.2.1
  rw [g21, sfgi h S F P (by decide) (by decide) (by decide), cl_nI (show t < 2 ^ 31 by omega), cl_nI (show o < 2 ^ 31 by omega)]
  refine ⟨hM.1.1, 20, hM.2.2.1, vp_nI ht (by decide), vp_nI ho (by decide), ?_⟩
  unfold ahR rLt at k
  by_cases c : gi h 460 t < gi h 460 o
  · rw [if_pos c]
    rw [decide_eq_true c] at k
    exact ⟨_, rfl, k⟩
  · rw [if_neg c]
    rw [decide_eq_false c, Bool.false_or] at k
    by_cases c2 : gi h 460 t = gi h 460 o
    · rw [if_pos c2]
      rw [decide_eq_true c2, Bool.true_and] at k
      by_cases c3 : t < o
      · rw [if_neg (show ¬ nI o ≤ nI t from nI_nlen c3 (by omega))]
        rw [decide_eq_true c3] at k
        exact ⟨_, rfl, k⟩
      · rw [if_pos (by rw [i_le, nI_toInt (by omega), nI_toInt (by omega)]; omega)]
        rw [decide_eq_false c3] at k
        exact ⟨_, rfl, k⟩
    · rw [if_neg c2]
      rw [decide_eq_false c2, Bool.false_and] at k
      exact ⟨_, rfl, k⟩
theorem r_placeOf {b N i : Nat} {x : Int32} {hp : Nat → Int32} {Q : Int32 → pm_H → Prop} (hM : Mk h) (hN : gi h 452 2 = nI N) (hN2 : N ≤ 20) (hb : b + 320 ≤ 4485) (hi : i < 20) (hx : ¬ x = -1) (hv : ∀ t, t < 20 → S (b + 240 + t) = hp t) (hn : ∀ t, N ≤ t → t < 20 → hp t = -1) (k : Q (nI (cnt (fun t => decide (hp t = x) && ahR (gi h 460) t i) 20)) (s8 (fp h F P) S)) : ci G (d + 2) m_X12_placeOf [.ref 446, .int (nI b), .int x, .int (nI i)] (s8 (fp h F P) S) Q := by
  have e : cnt (fun t => decide (hp t = x) && ahR (gi h 460) t i) 20 = cnt (fun t => decide (hp t = x) && ahR (gi h 460) t i) N := by
    rw [show 20 = N + (20 - N) by omega]
    refine cnt_N _ fun u h1 h2 => ?_
    rw [hn u h1 (by omega), decide_eq_false (fun q => hx q.symm), Bool.false_and]
  rw [e] at k
  refine ci_wp rfl (Nat.le_of_ble_eq_true rfl) rfl (x_X12_placeOf ?_)
  refine up_to (P := fun n => Wp G (m_X12_placeOf, d + 1 + 1, 0, 0, fun v h1 => ∃ r, v = some (.int r) ∧ Q r h1) (0, 0) 6 [.ref 446, .int (nI b), .int x, .int (nI i), .int (nI (cnt (fun t => decide (hp t = x) && ahR (gi h 460) t i) n)), .int (nI n)] [] (s8 (fp h F P) S)) N (fun n hn ih => ?_) ?_
  · refine x_X12_placeOf_6 ⟨hM.1.1, r_items hM hN ?_⟩
    rw [if_neg (show ¬ nI N ≤ nI n from nI_nlen hn (by omega)), nI_1, nI_1]
    have key := cnt_b (p := fun t => decide (hp t = x) && ahR (gi h 460) t i) (n := n)
    have g17 : gp (s8 (fp h F P) S) 446 17 = 458 := hM.1.2.1
    rw [g17, show (240 : Int32) = nI 240 from rfl, ixg, cl_nI (show b + 240 + n < 2 ^ 31 by omega), s8_gi, hv n (by omega)]
    refine ⟨hM.1.1, 4485, hM.1.2.2, vp_nI (by omega) (by decide), ?_⟩
    by_cases c : hp n = x
    · rw [if_pos c]
      refine r_isAhead hM (by omega) hi ?_
      simp only [decide_eq_true c, Bool.true_and] at key
      by_cases z : ahR (gi h 460) n i = true
      · rw [z, b2i_t, if_neg (by decide)]
        rw [z, b2i_t, nI_1] at key
        rw [key]; exact ih
      · have z : ahR (gi h 460) n i = false := by simpa using z
        rw [z, b2i_f, if_pos rfl]
        rw [z, b2i_f] at key
        rw [key]; exact ih
    · rw [if_neg c]
      simp only [decide_eq_false c, Bool.false_and, b2i_f] at key
      rw [key]; exact ih
  · refine x_X12_placeOf_6 ⟨hM.1.1, r_items hM hN ?_⟩
    rw [if_pos (show nI N ≤ nI N from Int32.le_refl _)]
    exact ⟨_, rfl, k⟩
theorem r_selectOf {N : Nat} {x i : Int32} {hp : Nat → Int32} {Q : Int32 → pm_H → Prop} (hM : Mk h) (hN : gi h 452 2 = nI N) (hN2 : N ≤ 20) (hx : ¬ x = -1) (hv : ∀ t, t < 20 → S (240 + t) = hp t) (hn : ∀ t, N ≤ t → t < 20 → hp t = -1) (k : Q (oI (fnd (selP (ahR (gi h 460)) hp x i) 20)) (s8 (fp h F P) S)) : ci G (d + 3) m_X12_selectOf [.ref 446, .int x, .int i] (s8 (fp h F P) S) Q := by
  rw [fnd_lst (fun t u ht hu h1 h2 => selP_one ht hu h1 h2)] at k
  have e : ∀ m, m ≤ 20 - N → lst (selP (ahR (gi h 460)) hp x i) (N + m) = lst (selP (ahR (gi h 460)) hp x i) N := by
    intro m
    induction m with
    | zero => intro _; rfl
    | succ m ih =>
      intro hm
      show lst _ ((N + m) + 1) = _
      rw [lst, if_neg (by
        unfold selP
        rw [hn (N + m) (by omega) (by omega), decide_eq_false (fun q => hx q.symm), Bool.false_and]
        decide)]
      exact ih (by omega)
  have e2 := e (20 - N) (Nat.le_refl _)
  rw [show N + (20 - N) = 20 by omega] at e2
  rw [e2] at k
  refine ci_wp rfl (Nat.le_of_ble_eq_true rfl) rfl (x_X12_selectOf ?_)
  refine up_to (P := fun n => Wp G (m_X12_selectOf, d + 2 + 1, 0, 0, fun v h1 => ∃ r, v = some (.int r) ∧ Q r h1) (0, 0) 5 [.ref 446, .int x, .int i, .int (oI (lst (selP (ahR (gi h 460)) hp x i) n)), .int (nI n)] [] (s8 (fp h F P) S)) N (fun n hnN ih => ?_) ?_
  · refine x_X12_selectOf_5 ⟨hM.1.1, r_items hM hN ?_⟩
    rw [if_neg (show ¬ nI N ≤ nI n from nI_nlen hnN (by omega)), nI_1]
    have g17 : gp (s8 (fp h F P) S) 446 17 = 458 := hM.1.2.1
    rw [g17, show (240 : Int32) = nI 240 from rfl, nI_add, cl_nI (show 240 + n < 2 ^ 31 by omega), s8_gi, hv n (by omega)]
    refine ⟨hM.1.1, 4485, hM.1.2.2, vp_nI (by omega) (by decide), ?_⟩
    rw [lst] at ih
    by_cases c : hp n = x
    · rw [if_pos c]
      refine r_placeOf (b := 0) hM hN hN2 (by omega) (by omega) hx (fun t ht => by rw [Nat.zero_add]; exact hv t ht) hn ?_
      by_cases c2 : nI (cnt (fun u => decide (hp u = x) && ahR (gi h 460) u n) 20) = i
      · rw [if_pos c2]
        have hp1 : selP (ahR (gi h 460)) hp x i n = true := by unfold selP; rw [decide_eq_true c, decide_eq_true c2]; rfl
        rw [if_pos hp1] at ih
        exact ih
      · rw [if_neg c2]
        rw [if_neg (by unfold selP; rw [decide_eq_false c2, Bool.and_false]; decide)] at ih
        exact ih
    · rw [if_neg c]
      rw [if_neg (by unfold selP; rw [decide_eq_false c, Bool.false_and]; decide)] at ih
      exact ih
  · refine x_X12_selectOf_5 ⟨hM.1.1, r_items hM hN ?_⟩
    rw [if_pos (show nI N ≤ nI N from Int32.le_refl _)]
    exact ⟨_, rfl, k⟩
end RAH
