/-! QUESTIONS about a Forest: TREES, RANKS, SHELVES -/
def trP (hs : Hs) (a r : Nat) : Bool := !isL (hs (24 * a + r))
def grk (hs : Hs) (a : Nat) : Nat → Int32
  | 0 => -1
  | n + 1 => if isL (hs (24 * a + n)) = true then grk hs a n else nI n
theorem trP_t {hs : Hs} {a r : Nat} (h : isL (hs (24 * a + r)) = true) : trP hs a r = false := by unfold trP; rw [h]; rfl
theorem trP_f {hs : Hs} {a r : Nat} (h : ¬ isL (hs (24 * a + r)) = true) : trP hs a r = true := by
  unfold trP
  cases e : isL (hs (24 * a + r)) with
  | true => exact absurd e h
  | false => rfl
section REA
variable {G : pm_G} {d : Nat} {h : pm_H} {f : Nat}
theorem s_treesIn {Q : Int32 → pm_H → Prop} {hs : Hs} {a : Nat} (hF : Fa h f) (ha : a < 3) (hn : ∀ q, q < 72 → NC (gi h) f (-1) (hs q) ∧ gi h (f + 20) q = tr_no (hs q)) (k : Q (nI (cnt (trP hs a) 24)) h) : ci G (d + 2) m_X0_treesIn [.ref f, .int (nI a)] h Q := by
  refine ci_wp rfl (Nat.le_of_ble_eq_true rfl) rfl (x_X0_treesIn ?_)
  refine up_to (P := fun n => Wp G (m_X0_treesIn, d + 1 + 1, 0, 0, fun v h1 => ∃ r, v = some (.int r) ∧ Q r h1) (0, 0) 4 [.ref f, .int (nI a), .int (nI (cnt (trP hs a) n)), .int (nI n)] [] h) 24 (fun n hn24 ih => ?_) ?_
  · refine x_X0_treesIn_4 ?_
    rw [if_neg (li_no 24 24 rfl hn24 (by decide))]
    have hq : 24 * a + n < 72 := by omega
    refine ⟨hF.1, s_slot (d := d) (by omega) hn24 (f_at10 hF ?_)⟩
    obtain ⟨c1, c2⟩ := hn _ hq
    rw [rd_in hq (by decide), c2, nI_1, nI_1]
    have hm1 := tr_no_m1 c1
    by_cases hX : isL (hs (24 * a + n)) = true
    · rw [if_pos (hm1.mpr hX), show nI (cnt (trP hs a) n) + 0 = nI (cnt (trP hs a) n) from nI_add _ 0]
      rw [cnt_skip (trP_t hX)] at ih
      exact ih
    · rw [if_neg (fun z => hX (hm1.mp z))]
      rw [cnt_step (trP_f hX)] at ih
      exact ih
  · refine x_X0_treesIn_4 ?_
    rw [if_pos (li_yes 24 24 rfl)]
    exact ⟨_, rfl, k⟩
theorem s_greatestRank {Q : Int32 → pm_H → Prop} {hs : Hs} {a : Nat} (hF : Fa h f) (ha : a < 3) (hn : ∀ q, q < 72 → NC (gi h) f (-1) (hs q) ∧ gi h (f + 20) q = tr_no (hs q)) (k : Q (grk hs a 24) h) : ci G (d + 2) m_X0_greatestRank [.ref f, .int (nI a)] h Q := by
  refine ci_wp rfl (Nat.le_of_ble_eq_true rfl) rfl (x_X0_greatestRank ?_)
  refine up_to (P := fun n => Wp G (m_X0_greatestRank, d + 1 + 1, 0, 0, fun v h1 => ∃ r, v = some (.int r) ∧ Q r h1) (0, 0) 4 [.ref f, .int (nI a), .int (grk hs a n), .int (nI n)] [] h) 24 (fun n hn24 ih => ?_) ?_
  · refine x_X0_greatestRank_4 ?_
    rw [if_neg (li_no 24 24 rfl hn24 (by decide))]
    have hq : 24 * a + n < 72 := by omega
    refine ⟨hF.1, s_slot (d := d) (by omega) hn24 (f_at10 hF ?_)⟩
    obtain ⟨c1, c2⟩ := hn _ hq
    rw [rd_in hq (by decide), c2, nI_1]
    have hm1 := tr_no_m1 c1
    by_cases hX : isL (hs (24 * a + n)) = true
    · rw [if_pos (hm1.mpr hX)]
      rw [grk, if_pos hX] at ih
      exact ih
    · rw [if_neg (fun z => hX (hm1.mp z))]
      rw [grk, if_neg hX] at ih
      exact ih
  · refine x_X0_greatestRank_4 ?_
    rw [if_pos (li_yes 24 24 rfl)]
    exact ⟨_, rfl, k⟩
theorem s_itemsOn {x : Int32} {Q : Int32 → pm_H → Prop} {sv : Nat → Int32} (hF : Fa h f) (hv : ∀ u, u < 20 → gi h (f + 28) u = sv u) (w : Q (nI (cnt (fun t => decide (sv t = x)) 20)) h) : ci G (d + 2) m_X0_itemsOn [.ref f, .int x] h Q := by
  refine ci_wp rfl (Nat.le_of_ble_eq_true rfl) rfl (x_X0_itemsOn ?_)
  refine up_to (P := fun k => Wp G (m_X0_itemsOn, d + 1 + 1, 0, 0, fun v h1 => ∃ r, v = some (.int r) ∧ Q r h1) (0, 0) 4 [.ref f, .int x, .int (nI (cnt (fun t => decide (sv t = x)) k)), .int (nI k)] [] h) 20 (fun k hk ih => ?_) ?_
  · refine x_X0_itemsOn_4 ?_
    rw [if_neg (li_no 20 20 rfl hk (by decide))]
    refine ⟨hF.1, f_at14 hF ?_⟩
    rw [rd_in hk (by decide), hv k hk, nI_1, nI_1]
    by_cases c : sv k = x
    · rw [if_pos c]
      rwa [cnt_step (decide_eq_true c)] at ih
    · rw [if_neg c, show nI (cnt (fun t => decide (sv t = x)) k) + 0 = nI (cnt (fun t => decide (sv t = x)) k) from nI_add _ 0]
      rwa [cnt_skip (decide_eq_false c)] at ih
  · refine x_X0_itemsOn_4 ?_
    rw [if_pos (li_yes 20 20 rfl)]
    exact ⟨_, rfl, w⟩
end REA
