/-! TARGETS, as the class works them out -/
def mn (x y : Int32) : Int32 := if y < x then y else x
def tvO (n : Nat) (ops : List (Nat × Nat)) (share al : Int32) (rk : Nat) (tg : Int32) : Int32 := mx 1 (mn 99 (if n = 0 then (if share < nI rk then ((3 * tg) + 1) / 2 else 1) else evO (fc4 (nI rk) tg share al) ops []))
theorem tvO_pos (n : Nat) (ops : List (Nat × Nat)) (share al : Int32) (rk : Nat) (tg : Int32) : 0 < tvO n ops share al rk tg := by
  unfold tvO
  generalize mn 99 _ = v
  unfold mx
  split
  next c => exact Int32.lt_trans (by decide) c
  next c => decide
theorem rz_self (M : Nat → Nat → Int32) : rz M (M 21) = M := by
  funext b; unfold rz; split
  next c => rw [c]
  next c => rfl
section TGT
variable {G : pm_G} {d : Nat} {h : pm_H}
theorem s_TVc {n : Nat} {ops : List (Nat × Nat)} (hR : Lr h) (hn : gi h 17 1 = nI n) (hn2 : n ≤ 1000) (hl : ops.length = n) (hc : CO (gi h 19) 0 ops) (ho : n ≠ 0 → okO ops 0) : TVc G d h (tvO n ops (gi h 3 8)) := by
  intro M' al rk tg Q' hM k
  have e17 : M' 17 = gi h 17 := hM 17 (Or.inr (Or.inl rfl))
  have e19 : M' 19 = gi h 19 := hM 19 (Or.inr (Or.inr rfl))
  have e1 : gi (sm h M') 17 1 = nI n := (congrFun e17 1).trans hn
  refine ci_wp rfl (Nat.le_of_ble_eq_true rfl) rfl (x_X1_targetFor ⟨hR.1, ?_⟩)
  have k0 := k (M' 21)
  rw [rz_self] at k0
  rw [e1]
  by_cases c : n = 0
  · rw [if_pos (by rw [c]; rfl)]
    unfold tvO at k0
    rw [if_pos c] at k0
    by_cases c2 : gi h 3 8 < nI rk
    · rw [if_pos c2]
      rw [if_pos c2] at k0
      exact j_min (d := d + 2) (j_max (d := d + 2) ⟨_, rfl, k0⟩)
    · rw [if_neg c2]
      rw [if_neg c2] at k0
      exact j_min (d := d + 2) (j_max (d := d + 2) ⟨_, rfl, k0⟩)
  · rw [if_neg (nI_neq0 c (by omega))]
    refine ci_wp rfl (Nat.le_of_ble_eq_true rfl) rfl (x_X1_workedOut ?_)
    have key := l_eval (G := G) (d := d + 1) (h := h) (M := M') (a := nI rk) (b := tg) (c := gi h 3 8) (e := al) (Q := fun r9 h10 => ci G (d + 3) m_J9_min_7cf53 [.int 99, .int r9] h10 fun r11 h12 => ci G (d + 3) m_J9_max_7cf53 [.int 1, .int r11] h12 fun r13 h14 => ∃ r, (some (.int r13) : Option Value) = some (.int r) ∧ Q' r h14) hR (show M' 17 1 = nI n from e1) hn2 ops 0 [] (M' 21) (by omega) (by rw [e19]; exact hc) (ho c) trivial (by decide) (fun z' => ?_)
    · rw [rz_self] at key
      exact key
    · refine j_min (d := d + 2) (j_max (d := d + 2) ⟨_, rfl, ?_⟩)
      have := k z'
      unfold tvO at this
      rw [if_neg c] at this
      exact this
end TGT
