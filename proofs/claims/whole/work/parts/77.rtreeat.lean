/-! THE REFERENCE: the i-th TREE of a HEAP -/
theorem tatF_16 {hs : Hs} {T : Tr} {w a : Nat} {i : Int32} (h : wf hs T w) (hw : w ≤ 1000) (ha : a < 3) : ∀ k r, r + k = 16 → tatF hs a i (k + 8) r = tatF hs a i k r
  | 0, r, hr => by
    rw [tatF_leaf fun x h1 h2 => h.high hw (show 24 * a + x < 72 by omega) (by omega)]
    rfl
  | k + 1, r, hr => by
    have e : tatF hs a i (k + 8) (r + 1) = tatF hs a i k (r + 1) := tatF_16 h hw ha k (r + 1) (by omega)
    show (if isL (hs (24 * a + r)) = true then tatF hs a i (k + 8) (r + 1) else if i = nI (cnt (trP hs a) r) then hs (24 * a + r) else tatF hs a i (k + 8) (r + 1)) = (if isL (hs (24 * a + r)) = true then tatF hs a i k (r + 1) else if i = nI (cnt (trP hs a) r) then hs (24 * a + r) else tatF hs a i k (r + 1))
    rw [e]
section RTT
variable {G : pm_G} {d : Nat} {h : pm_H} {S F P : Nat → Int32}
theorem r_heaps {N : Nat} {Q : Int32 → pm_H → Prop} (hM : Mk h) (hN : gi h 452 0 = nI N) (k : Q (nI N) (s8 (fp h F P) S)) : ci G (d + 1) m_X12_heaps [.ref 446] (s8 (fp h F P) S) Q := by
  obtain ⟨hM, -, -, h1, h2⟩ := hM
  refine ci_wp rfl (Nat.le_of_ble_eq_true rfl) rfl (x_X12_heaps ?_)
  have hp : gp (s8 (fp h F P) S) 446 10 = 452 := h1
  rw [hp, sfgi h S F P (by decide) (by decide) (by decide)]
  exact ⟨hM.1, 180, h2, vp_nI (k := 0) (by decide) (by decide), _, rfl, by rw [show (0 : Int32).toNatClampNeg = 0 from rfl, hN]; exact k⟩
theorem r_isHeap {N a : Nat} {Q : Int32 → pm_H → Prop} (hM : Mk h) (hN : gi h 452 0 = nI N) (ha : a < N) (hN2 : N ≤ 3) (k : Q 1 (s8 (fp h F P) S)) : ci G (d + 2) m_X12_isHeap [.ref 446, .int (nI a)] (s8 (fp h F P) S) Q := by
  refine ci_wp rfl (Nat.le_of_ble_eq_true rfl) rfl (x_X12_isHeap ?_)
  rw [if_neg (nI_pos (by omega))]
  refine ⟨hM.1.1, r_heaps hM hN ?_⟩
  rw [if_neg (show ¬ nI N ≤ nI a from nI_nlen ha (by omega))]
  exact ⟨_, rfl, k⟩
theorem r_treeAt {ky : Nat → Int32} {Q : Int32 → pm_H → Prop} {hs : Hs} {a w N : Nat} {i : Int32} (hM : Mk h) (hN : gi h 452 0 = nI N) (haN : a < N) (hN2 : N ≤ 3) (hw : w ≤ 1000) (hwf : wf hs .leaf w) (hn : ∀ r, r < 16 → NR ky S 0 (hs (24 * a + r)) ∧ S (0 + 192 + 16 * a + r) = tr_no (hs (24 * a + r))) (k : Q (tr_no (tatF hs a i 24 0)) (s8 (fp h F P) S)) : ci G (d + 3) m_X12_treeAt [.ref 446, .int (nI a), .int i] (s8 (fp h F P) S) Q := by
  have ha : a < 3 := by omega
  rw [show (24 : Nat) = 16 + 8 from rfl, tatF_16 hwf hw ha 16 0 rfl] at k
  refine ci_wp rfl (Nat.le_of_ble_eq_true rfl) rfl (x_X12_treeAt ?_)
  have all : ∀ n r, r + n = 16 → tr_no (tatF hs a i n r) = tr_no (tatF hs a i 16 0) → Wp G (m_X12_treeAt, d + 2 + 1, 0, 0, fun v h1 => ∃ r, v = some (.int r) ∧ Q r h1) (0, 0) 5 [.ref 446, .int (nI a), .int i, .int (nI (cnt (trP hs a) r)), .int (nI r)] [] (s8 (fp h F P) S) := by
    intro n
    induction n with
    | zero =>
      intro r hr e
      have hr : r = 16 := by omega
      subst hr
      refine x_X12_treeAt_5 ?_
      rw [if_pos (li_yes 16 16 rfl)]
      exact ⟨_, rfl, by rw [← e] at k; exact k⟩
    | succ n ih =>
      intro r hr e
      obtain ⟨c1, c2⟩ := hn r (by omega)
      refine x_X12_treeAt_5 ?_
      rw [if_neg (li_no 16 16 rfl (by omega) (by decide))]
      refine ⟨hM.1.1, r_isHeap (d := d) hM hN haN hN2 ?_⟩
      rw [if_neg (show ¬ (1 : Int32) = 0 by decide)]
      refine ⟨hM.1.1, r_rootAt (d := d + 1) (b := 0) (h := fp h F P) hM.1 (by omega) ?_⟩
      rw [c2, nI_1, nI_1]
      by_cases hX : isL (hs (24 * a + r)) = true
      · rw [if_pos (c1.m1.2.1.mpr hX)]
        rw [tatF, if_pos hX] at e
        have := ih (r + 1) (by omega) e
        rw [cnt_skip (trP_t hX)] at this
        exact this
      · rw [if_neg (fun z => hX (c1.m1.2.1.mp z))]
        rw [tatF, if_neg hX] at e
        by_cases c : i = nI (cnt (trP hs a) r)
        · rw [if_pos c.symm]
          rw [if_pos c] at e
          refine ⟨hM.1.1, r_rootAt (d := d + 1) (b := 0) (h := fp h F P) hM.1 (by omega) ?_⟩
          rw [c2]
          exact ⟨_, rfl, by rw [← e] at k; exact k⟩
        · rw [if_neg (fun z => c z.symm)]
          rw [if_neg c] at e
          have := ih (r + 1) (by omega) e
          rw [cnt_step (trP_f hX)] at this
          exact this
  exact all 16 0 rfl rfl
end RTT
