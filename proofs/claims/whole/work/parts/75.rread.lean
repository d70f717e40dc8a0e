/-! THE REFERENCE: the same questions -/
theorem trP_16 {hs : Hs} {T : Tr} {w a : Nat} (h : wf hs T w) (hw : w ≤ 1000) (ha : a < 3) : cnt (trP hs a) 24 = cnt (trP hs a) 16 :=
  cnt_N (N := 16) 8 fun u h1 h2 => trP_t (h.high hw (by omega) (by omega))
theorem grk_16 {hs : Hs} {T : Tr} {w a : Nat} (h : wf hs T w) (hw : w ≤ 1000) (ha : a < 3) : ∀ k, k ≤ 8 → grk hs a (16 + k) = grk hs a 16
  | 0, _ => rfl
  | k + 1, hk => by
    show grk hs a ((16 + k) + 1) = _
    rw [grk, if_pos (h.high hw (by omega) (by omega))]
    exact grk_16 h hw ha k (by omega)
section RRE
variable {G : pm_G} {d : Nat} {h : pm_H} {S : Nat → Int32}
theorem r_treesIn {ky : Nat → Int32} {Q : Int32 → pm_H → Prop} {hs : Hs} {a w : Nat} (hM : Md h) (ha : a < 3) (hw : w ≤ 1000) (hwf : wf hs .leaf w) (hn : ∀ r, r < 16 → NR ky S 0 (hs (24 * a + r)) ∧ S (0 + 192 + 16 * a + r) = tr_no (hs (24 * a + r))) (k : Q (nI (cnt (trP hs a) 24)) (s8 h S)) : ci G (d + 2) m_X12_treesIn [.ref 446, .int (nI a)] (s8 h S) Q := by
  rw [trP_16 hwf hw ha] at k
  refine ci_wp rfl (Nat.le_of_ble_eq_true rfl) rfl (x_X12_treesIn ?_)
  refine up_to (P := fun n => Wp G (m_X12_treesIn, d + 1 + 1, 0, 0, fun v h1 => ∃ r, v = some (.int r) ∧ Q r h1) (0, 0) 4 [.ref 446, .int (nI a), .int (nI (cnt (trP hs a) n)), .int (nI n)] [] (s8 h S)) 16 (fun n hn16 ih => ?_) ?_
  · refine x_X12_treesIn_4 ?_
    rw [if_neg (li_no 16 16 rfl hn16 (by decide))]
    obtain ⟨c1, c2⟩ := hn n hn16
    refine ⟨hM.1, r_rootAt (b := 0) hM (by omega) ?_⟩
    rw [c2, nI_1, nI_1]
    by_cases hX : isL (hs (24 * a + n)) = true
    · rw [if_pos (c1.m1.2.1.mpr hX), show nI (cnt (trP hs a) n) + 0 = nI (cnt (trP hs a) n) from nI_add _ 0]
      rw [cnt_skip (trP_t hX)] at ih
      exact ih
    · rw [if_neg (fun z => hX (c1.m1.2.1.mp z))]
      rw [cnt_step (trP_f hX)] at ih
      exact ih
  · refine x_X12_treesIn_4 ?_
    rw [if_pos (li_yes 16 16 rfl)]
    exact ⟨_, rfl, k⟩
end RRE
