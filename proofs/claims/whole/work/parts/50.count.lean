/-! counting -/
def cnt (p : Nat → Bool) : Nat → Nat
  | 0 => 0
  | n + 1 => cnt p n + (if p n then 1 else 0)
theorem cnt_le (p : Nat → Bool) : ∀ n, cnt p n ≤ n
  | 0 => Nat.le_refl _
  | n + 1 => by
    have := cnt_le p n
    unfold cnt
    split <;> omega
theorem cnt_congr {p q : Nat → Bool} : ∀ {n : Nat}, (∀ j, j < n → p j = q j) → cnt p n = cnt q n
  | 0, _ => rfl
  | n + 1, h => by
    unfold cnt
    rw [cnt_congr fun j hj => h j (by omega), h n (by omega)]
theorem cnt_step {p : Nat → Bool} {n : Nat} (h : p n = true) : cnt p (n + 1) = cnt p n + 1 := by
  show cnt p n + _ = _
  rw [h]; rfl
theorem cnt_skip {p : Nat → Bool} {n : Nat} (h : p n = false) : cnt p (n + 1) = cnt p n := by
  show cnt p n + _ = _
  rw [h]; rfl
section CNT
variable {G : pm_G} {d : Nat} {h : pm_H} {f : Nat}
theorem s_itemsIn {x : Int32} {Q : Int32 → pm_H → Prop} (hF : Fa h f) (w : Q (nI (cnt (fun t => decide (gi h (f + 26) t = x)) 20)) h) : ci G (d + 2) m_X0_itemsIn [.ref f, .int x] h Q := by
  refine ci_wp rfl (Nat.le_of_ble_eq_true rfl) rfl (x_X0_itemsIn ?_)
  refine up_to (P := fun k => Wp G (m_X0_itemsIn, d + 1 + 1, 0, 0, fun v h1 => ∃ r, v = some (.int r) ∧ Q r h1) (0, 0) 4 [.ref f, .int x, .int (nI (cnt (fun t => decide (gi h (f + 26) t = x)) k)), .int (nI k)] [] h) 20 (fun k hk ih => ?_) ?_
  · refine x_X0_itemsIn_4 ?_
    rw [if_neg (li_no 20 20 rfl hk (by decide))]
    refine ⟨hF.1, f_at13 hF ?_⟩
    rw [rd_in hk (by decide)]
    split
    next c =>
      rw [nI_1, nI_1]
      rwa [cnt_step (by simp [c])] at ih
    next c =>
      rw [nI_1, show nI (cnt (fun t => decide (gi h (f + 26) t = x)) k) + 0 = nI (cnt (fun t => decide (gi h (f + 26) t = x)) k) from nI_add _ 0]
      rwa [cnt_skip (by simp [c])] at ih
  · refine x_X0_itemsIn_4 ?_
    rw [if_pos (li_yes 20 20 rfl)]
    exact ⟨_, rfl, w⟩
end CNT
