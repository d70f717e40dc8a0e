/-! the i-th TREE of a HEAP -/
def tatF (hs : Hs) (a : Nat) (i : Int32) : Nat → Nat → Tr
  | 0, _ => .leaf
  | k + 1, r => if isL (hs (24 * a + r)) = true then tatF hs a i k (r + 1) else if i = nI (cnt (trP hs a) r) then hs (24 * a + r) else tatF hs a i k (r + 1)
theorem tatF_leaf {hs : Hs} {a : Nat} {i : Int32} : ∀ {k r : Nat}, (∀ x, r ≤ x → x < r + k → isL (hs (24 * a + x)) = true) → tatF hs a i k r = .leaf
  | 0, _, _ => rfl
  | k + 1, r, h => by
    rw [tatF, if_pos (h r (Nat.le_refl _) (by omega))]
    exact tatF_leaf fun x h1 h2 => h x (by omega) (by omega)
section TAT
variable {G : pm_G} {d : Nat} {h : pm_H} {f : Nat}
theorem s_treeAt {Q : Int32 → pm_H → Prop} {hs : Hs} {a : Nat} {i : Int32} (hF : Fa h f) (ha : a < 3) (hn : ∀ q, q < 72 → NC (gi h) f (-1) (hs q) ∧ gi h (f + 20) q = tr_no (hs q)) (k : Q (tr_no (tatF hs a i 24 0)) h) : ci G (d + 2) m_X0_treeAt [.ref f, .int (nI a), .int i] h Q := by
  refine ci_wp rfl (Nat.le_of_ble_eq_true rfl) rfl (x_X0_treeAt ?_)
  have all : ∀ n r, r + n = 24 → tr_no (tatF hs a i n r) = tr_no (tatF hs a i 24 0) → Wp G (m_X0_treeAt, d + 1 + 1, 0, 0, fun v h1 => ∃ r, v = some (.int r) ∧ Q r h1) (0, 0) 5 [.ref f, .int (nI a), .null, .int (i - nI (cnt (trP hs a) r)), .int (nI r), .null] [] h := by
    intro n
    induction n with
    | zero =>
      intro r hr e
      have hr : r = 24 := by omega
      subst hr
      refine x_X0_treeAt_5 ?_
      rw [if_pos (li_yes 24 24 rfl)]
      exact ⟨_, rfl, by rw [← e] at k; exact k⟩
    | succ n ih =>
      intro r hr e
      have hq : 24 * a + r < 72 := by omega
      refine x_X0_treeAt_5 ?_
      rw [if_neg (li_no 24 24 rfl (by omega) (by decide))]
      refine ⟨hF.1, s_slot (d := d) (by omega) (by omega) (f_at10 hF ?_)⟩
      obtain ⟨c1, c2⟩ := hn _ hq
      rw [rd_in hq (by decide), c2, nI_1]
      have hm1 := tr_no_m1 c1
      by_cases hX : isL (hs (24 * a + r)) = true
      · rw [if_pos (hm1.mpr hX), if_pos (hm1.mpr hX)]
        rw [tatF, if_pos hX] at e
        have := ih (r + 1) (by omega) e
        rw [cnt_skip (trP_t hX)] at this
        rw [show i - nI (cnt (trP hs a) r) - 0 = i - nI (cnt (trP hs a) r) by simp]
        exact this
      · rw [if_neg (fun z => hX (hm1.mp z)), if_neg (fun z => hX (hm1.mp z))]
        rw [tatF, if_neg hX] at e
        by_cases c : i = nI (cnt (trP hs a) r)
        · rw [if_pos (show i - nI (cnt (trP hs a) r) = 0 by rw [← c]; simp)]
          rw [if_pos c] at e
          exact ⟨_, rfl, by rw [← e] at k; exact k⟩
        · rw [if_neg (show ¬ i - nI (cnt (trP hs a) r) = 0 from fun z => c (by
            have : i - nI (cnt (trP hs a) r) + nI (cnt (trP hs a) r) = 0 + nI (cnt (trP hs a) r) := by rw [z]
            simpa using this))]
          rw [if_neg c] at e
          have := ih (r + 1) (by omega) e
          rw [cnt_step (trP_f hX)] at this
          rw [show i - nI (cnt (trP hs a) r) - 1 = i - nI (cnt (trP hs a) r + 1) by rw [← nI_1, Int32.sub_sub]]
          exact this
  have := all 24 0 rfl rfl
  rw [show i - nI (cnt (trP hs a) 0) = i by show i - 0 = i; simp] at this
  exact this
end TAT
