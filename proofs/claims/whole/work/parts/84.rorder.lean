/-! THE REFERENCE: AWAY, FAR, WRONG, SPLIT -/
section ROR
variable {G : pm_G} {d : Nat} {h : pm_H} {S C F P : Nat → Int32}
theorem sfc (h : pm_H) (S C F P : Nat → Int32) : gi (s8 (fp (co h C) F P) S) 461 = C := (sfgi _ S F P (by decide) (by decide) (by decide)).trans (co_gi h C)
theorem sfk (h : pm_H) (S C F P : Nat → Int32) {a : Nat} (h1 : a ≠ 456) (h2 : a ≠ 457) (h3 : a ≠ 458) (h4 : a ≠ 461) : gi (s8 (fp (co h C) F P) S) a = gi h a := (sfgi _ S F P h1 h2 h3).trans (co_ne h C h4)
theorem r_awayOf {b N a t : Nat} {hp : Nat → Int32} {l : List Nat} {Q : Int32 → pm_H → Prop} (hL : La h) (hN : gi h 452 2 = nI N) (hN2 : N ≤ 20) (ht : t < 20) (ha : a < 3) (hv : ∀ t, t < 20 → S (240 + t) = hp t) (hn : ∀ t, N ≤ t → t < 20 → hp t = -1) (hO : OrR C l) (hl : ∀ t ∈ l, t < 20) (hld : l.Nodup) (hll : l.length ≤ 20) (hlm : ∀ t, t ∈ l ↔ t < 20 ∧ decide (hp t = nI a) = true) (k : Q (awayI (ahR (gi h 460)) l t) (s8 (fp (co h C) F P) S)) : ci G (d + 3) m_X12_awayOf [.ref 446, .int (nI a), .int (nI t), .int (nI l.length)] (s8 (fp (co h C) F P) S) Q := by
  refine ci_wp rfl (Nat.le_of_ble_eq_true rfl) rfl (x_X12_awayOf ?_)
  refine up_to (P := fun n => Wp G (m_X12_awayOf, d + 2 + 1, 0, 0, fun v h1 => ∃ r, v = some (.int r) ∧ Q r h1) (0, 0) 6 [.ref 446, .int (nI a), .int (nI t), .int (nI l.length), .int (nI (posI l t n)), .int (nI n)] [] (s8 (fp (co h C) F P) S)) l.length (fun n hn2 ih => ?_) ?_
  · refine x_X12_awayOf_6 ?_
    rw [if_neg (show ¬ nI l.length ≤ nI n from nI_nlen hn2 (by omega)), nI_1]
    have g22 : gp (s8 (fp (co h C) F P) S) 446 22 = 461 := hL.com.1
    rw [g22, sfc, cl_nI (show n < 2 ^ 31 by omega), hO n hn2]
    refine ⟨hL.md.1, 20, hL.com.2, vp_nI (by omega) (by decide), ?_⟩
    have gl := getD_lt hl hn2
    by_cases c : l.getD n 0 = t
    · rw [if_pos (by rw [c])]
      rw [posI, if_pos c] at ih
      exact ih
    · rw [if_neg (fun q => c ((nI_inj (by omega) (by omega)).mp q))]
      rw [posI, if_neg c] at ih
      exact ih
  · refine x_X12_awayOf_6 ?_
    rw [if_pos (show nI l.length ≤ nI l.length from Int32.le_refl _)]
    have e : cnt (aheadL (ahR (gi h 460)) l t) l.length = cnt (fun u => decide (hp u = nI a) && ahR (gi h 460) u t) 20 := cnt_list (p := fun u => decide (hp u = nI a)) (q := fun u => ahR (gi h 460) u t) hld hlm
    unfold awayI at k
    rw [e] at k
    refine ⟨hL.md.1, r_placeOf (h := co h C) (b := 0) (d := d) hL.mk (by rw [co_ne h C (by decide)]; exact hN) hN2 (by decide) ht (nI_nm1 (by omega)) (fun u hu => by rw [Nat.zero_add]; exact hv u hu) hn ⟨_, rfl, ?_⟩⟩
    rw [co_ne h C (by decide)]
    exact k
theorem r_farLoop {a N : Nat} {hp : Nat → Int32} {l : List Nat} {Q : Int32 → pm_H → Prop} (hL : La h) (hN : gi h 452 2 = nI N) (hN2 : N ≤ 20) (ha : a < 3) (hv : ∀ t, t < 20 → S (240 + t) = hp t) (hn : ∀ t, N ≤ t → t < 20 → hp t = -1) (hO : OrR C l) (hl : ∀ t ∈ l, t < 20) (hld : l.Nodup) (hll : l.length ≤ 20) (hlm : ∀ t, t ∈ l ↔ t < 20 ∧ decide (hp t = nI a) = true) (k : Q (farF (ahR (gi h 460)) l l.length) (s8 (fp (co h C) F P) S)) : Wp G (m_X12_far, d + 4, 0, 0, fun v h1 => ∃ r, v = some (.int r) ∧ Q r h1) (0, 0) 37 [.ref 446, .int (nI a), .int (nI l.length), .int 0, .int 0, .null] [] (s8 (fp (co h C) F P) S) := by
  refine up_to (P := fun n => Wp G (m_X12_far, d + 4, 0, 0, fun v h1 => ∃ r, v = some (.int r) ∧ Q r h1) (0, 0) 37 [.ref 446, .int (nI a), .int (nI l.length), .int (farF (ahR (gi h 460)) l n), .int (nI n), .null] [] (s8 (fp (co h C) F P) S)) l.length (fun n hn2 ih => ?_) ?_
  · refine x_X12_far_37 ?_
    rw [if_neg (show ¬ nI l.length ≤ nI n from nI_nlen hn2 (by omega)), nI_1]
    have g22 : gp (s8 (fp (co h C) F P) S) 446 22 = 461 := hL.com.1
    rw [g22, sfc, cl_nI (show n < 2 ^ 31 by omega), hO n hn2]
    have gl := getD_lt hl hn2
    refine ⟨hL.md.1, 20, hL.com.2, vp_nI (by omega) (by decide), r_awayOf (b := 0) (d := d) hL hN hN2 gl ha hv hn hO hl hld hll hlm ?_⟩
    rw [farF] at ih
    unfold mx absI at ih
    by_cases c : 0 ≤ awayI (ahR (gi h 460)) l (l.getD n 0)
    · rw [if_pos c]
      rw [if_pos c] at ih
      by_cases c2 : farF (ahR (gi h 460)) l n < awayI (ahR (gi h 460)) l (l.getD n 0)
      · rw [if_neg (by rw [Int32.not_le]; exact c2)]
        rw [if_pos c2] at ih
        exact ih
      · rw [if_pos (by rw [← Int32.not_lt]; exact c2)]
        rw [if_neg c2] at ih
        exact ih
    · rw [if_neg c]
      rw [if_neg c] at ih
      by_cases c2 : farF (ahR (gi h 460)) l n < -awayI (ahR (gi h 460)) l (l.getD n 0)
      · rw [if_neg (by rw [Int32.not_le]; exact c2)]
        rw [if_pos c2] at ih
        exact ih
      · rw [if_pos (by rw [← Int32.not_lt]; exact c2)]
        rw [if_neg c2] at ih
        exact ih
  · refine x_X12_far_37 ?_
    rw [if_pos (show nI l.length ≤ nI l.length from Int32.le_refl _)]
    exact ⟨_, rfl, k⟩
theorem r_wrongLoop {l : List Nat} {Q : Int32 → pm_H → Prop} (hL : La h) (hO : OrR C l) (hl : ∀ t ∈ l, t < 20) (hll : l.length ≤ 20) (k : Q (nI (wrF (rLt (gi h 460)) l l.length)) (s8 (fp (co h C) F P) S)) : Wp G (m_X12_wrongs, d + 1, 0, 0, fun v h1 => ∃ r, v = some (.int r) ∧ Q r h1) (0, 0) 37 [.ref 446, .null, .int (nI l.length), .int 0, .int 0, .null] [] (s8 (fp (co h C) F P) S) := by
  refine up_to (P := fun n => Wp G (m_X12_wrongs, d + 1, 0, 0, fun v h1 => ∃ r, v = some (.int r) ∧ Q r h1) (0, 0) 37 [.ref 446, .null, .int (nI l.length), .int (nI (wrF (rLt (gi h 460)) l n)), .int (nI n), .null] [] (s8 (fp (co h C) F P) S)) l.length (fun n hn2 ih => ?_) ?_
  · refine x_X12_wrongs_37 ?_
    rw [if_neg (show ¬ nI l.length ≤ nI n from nI_nlen hn2 (by omega))]
    have g22 : gp (s8 (fp (co h C) F P) S) 446 22 = 461 := hL.com.1
    have g21 : gp (s8 (fp (co h C) F P) S) 446 21 = 460 := hL.mk.2.1
    refine up_to (P := fun i => Wp G (m_X12_wrongs, d + 1, 0, 0, fun v h1 => ∃ r, v = some (.int r) ∧ Q r h1) (0, 0) 46 [.ref 446, .null, .int (nI l.length), .int (nI (wrF (rLt (gi h 460)) l n + cnt (wrL (rLt (gi h 460)) l n) i)), .int (nI n), .int (nI i)] [] (s8 (fp (co h C) F P) S)) n (fun i hi ih2 => ?_) ?_
    · refine x_X12_wrongs_46 ?_
      have gl := getD_lt hl hn2
      have hil : i < l.length := by omega
      have gl2 := getD_lt hl hil
      rw [if_neg (show ¬ nI n ≤ nI i from nI_nlen hi (by omega)), nI_1, nI_1, g22, g21, sfc, sfk h S C F P (by decide) (by decide) (by decide) (by decide), cl_nI (show n < 2 ^ 31 by omega), cl_nI (show i < 2 ^ 31 by omega), hO n hn2, hO i hil, cl_nI (show l.getD n 0 < 2 ^ 31 by omega), cl_nI (show l.getD i 0 < 2 ^ 31 by omega)]
      refine ⟨hL.md.1, 20, hL.com.2, vp_nI (by omega) (by decide), 20, hL.mk.2.2.1, vp_nI gl (by decide), vp_nI (by omega) (by decide), vp_nI gl2 (by decide), ?_⟩
      by_cases z : gi h 460 (l.getD n 0) < gi h 460 (l.getD i 0)
      · rw [if_neg (by rw [Int32.not_le]; exact z)]
        rw [cnt_step (show wrL (rLt (gi h 460)) l n i = true from decide_eq_true z)] at ih2
        exact ih2
      · rw [if_pos (by rw [← Int32.not_lt]; exact z), show nI (wrF (rLt (gi h 460)) l n + cnt (wrL (rLt (gi h 460)) l n) i) + 0 = nI (wrF (rLt (gi h 460)) l n + cnt (wrL (rLt (gi h 460)) l n) i) from nI_add _ 0]
        rw [cnt_skip (show wrL (rLt (gi h 460)) l n i = false from decide_eq_false z)] at ih2
        exact ih2
    · refine x_X12_wrongs_46 ?_
      rw [if_pos (show nI n ≤ nI n from Int32.le_refl _), nI_1]
      exact ih
  · refine x_X12_wrongs_37 ?_
    rw [if_pos (show nI l.length ≤ nI l.length from Int32.le_refl _)]
    exact ⟨_, rfl, k⟩
theorem drop_cons {l : List Nat} {i : Nat} (h : i < l.length) : l.drop i = l.getD i 0 :: l.drop (i + 1) := by
  rw [List.drop_eq_getElem_cons h]
  simp [List.getD_eq_getElem?_getD, h]
theorem r_splitLoop {l : List Nat} {m : Nat} {Q : Int32 → pm_H → Prop} (hL : La h) (hO : OrR C l) (hl : ∀ t ∈ l, t < 20) (hll : l.length ≤ 20) (hm : m < 2 ^ 30) : ∀ (j i : Nat) (g : Option Nat), i + j = m → (∀ b, g = some b → b < 20) → Q (oI (grL (ahR (gi h 460)) j g (l.drop i))) (s8 (fp (co h C) F P) S) → Wp G (m_X12_splitOf, d + 2, 0, 0, fun v h1 => ∃ r, v = some (.int r) ∧ Q r h1) (0, 0) 20 [.ref 446, .int (nI l.length), .int (nI m), .int (oI g), .int (nI i)] [] (s8 (fp (co h C) F P) S) := by
  have g22 : gp (s8 (fp (co h C) F P) S) 446 22 = 461 := hL.com.1
  intro j
  induction j with
  | zero =>
    intro i g hi hg k
    refine x_X12_splitOf_20 ?_
    rw [if_pos (show nI m ≤ nI i by rw [show i = m by omega]; exact Int32.le_refl _)]
    exact ⟨_, rfl, k⟩
  | succ j ih =>
    intro i g hi hg k
    refine x_X12_splitOf_20 ?_
    rw [if_neg (show ¬ nI m ≤ nI i from nI_nlen (by omega) (by omega))]
    by_cases c : l.length ≤ i
    · rw [if_pos (by rw [i_le, nI_toInt (by omega), nI_toInt (by omega)]; omega)]
      rw [List.drop_eq_nil_of_le c, grL_nil] at k
      exact ⟨_, rfl, k⟩
    · have hil : i < l.length := by omega
      rw [if_neg (show ¬ nI l.length ≤ nI i from nI_nlen hil (by omega)), nI_1]
      have gl := getD_lt hl hil
      rw [drop_cons hil] at k
      cases g with
      | none =>
        rw [if_pos (show oI none < 0 by decide), g22, sfc, cl_nI (show i < 2 ^ 31 by omega), hO i hil]
        exact ⟨hL.md.1, 20, hL.com.2, vp_nI (by omega) (by decide), ih (i + 1) (some (l.getD i 0)) (by omega) (fun b hb => by cases hb; exact gl) k⟩
      | some b =>
        have hb := hg b rfl
        rw [show oI (some b) = nI b from rfl, if_neg (nI_pos (by omega)), g22, sfc, cl_nI (show i < 2 ^ 31 by omega), hO i hil]
        refine ⟨hL.md.1, 20, hL.com.2, vp_nI (by omega) (by decide), r_isAhead (h := co h C) (d := d) hL.mk hb gl ?_⟩
        rw [co_ne h C (by decide)]
        rw [grL] at k
        by_cases z : ahR (gi h 460) b (l.getD i 0) = true
        · rw [z, b2i_t, if_neg (by decide), g22, sfc, hO i hil]
          simp only [z, if_true] at k
          exact ⟨hL.md.1, 20, hL.com.2, vp_nI (by omega) (by decide), ih (i + 1) (some (l.getD i 0)) (by omega) (fun b hb => by cases hb; exact gl) k⟩
        · have z : ahR (gi h 460) b (l.getD i 0) = false := by simpa using z
          rw [z, b2i_f, if_pos rfl]
          simp only [z, Bool.false_eq_true, if_false] at k
          exact ih (i + 1) (some b) (by omega) hg k
theorem r_splitOf {l : List Nat} {Q : Int32 → pm_H → Prop} (hL : La h) (hO : OrR C l) (hl : ∀ t ∈ l, t < 20) (hll : l.length ≤ 20) (k : Q (oI (grL (ahR (gi h 460)) (thd l.length) none l)) (s8 (fp (co h C) F P) S)) : ci G (d + 2) m_X12_splitOf [.ref 446, .int (nI l.length)] (s8 (fp (co h C) F P) S) Q := by
  refine ci_wp rfl (Nat.le_of_ble_eq_true rfl) rfl (x_X12_splitOf ?_)
  rw [div3' hll]
  have loop := r_splitLoop (G := G) (d := d) (m := thd l.length) (Q := Q) (F := F) (P := P) (S := S) hL hO hl hll (by unfold thd; split <;> omega) (thd l.length) 0 none (Nat.zero_add _) (fun b hb => by cases hb) (by rw [List.drop_zero]; exact k)
  unfold thd at loop
  by_cases c : l.length / 3 < 1
  · rw [if_neg (by rw [i_le, nI_toInt (by omega)]; show ¬ (1 : Int) ≤ _; omega)]
    rw [if_pos c] at loop
    exact loop
  · rw [if_pos (by rw [i_le, nI_toInt (by omega)]; show (1 : Int) ≤ _; omega)]
    rw [if_neg c] at loop
    exact loop
end ROR
