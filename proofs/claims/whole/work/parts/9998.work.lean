/-! THE CLASS: lines of a WORK added, copied -/
section WKA
variable {G : pm_G} {d : Nat} {h : pm_H}
theorem La.wks {h : pm_H} (hL : La h) : h.1[48]? = some (0, 9) ∧ gp h 48 0 = 49 ∧ gp h 48 1 = 51 ∧ gp h 48 2 = 53 ∧ Ro h 49 50 30 ∧ Ro h 51 52 30 ∧ Ro h 53 54 30 ∧ h.1[41]? = some (0, 9) ∧ gp h 41 0 = 42 ∧ gp h 41 1 = 44 ∧ gp h 41 2 = 46 ∧ Ro h 42 43 30 ∧ Ro h 44 45 30 ∧ Ro h 46 47 30 :=
  ⟨hL.k (by decide +kernel), hL.p (by decide +kernel) (by omega), hL.p (by decide +kernel) (by omega), hL.p (by decide +kernel) (by omega), hL.ro (by decide +kernel) (by decide +kernel) (by decide +kernel) (by decide), hL.ro (by decide +kernel) (by decide +kernel) (by decide +kernel) (by decide), hL.ro (by decide +kernel) (by decide +kernel) (by decide +kernel) (by decide), hL.k (by decide +kernel), hL.p (by decide +kernel) (by omega), hL.p (by decide +kernel) (by omega), hL.p (by decide +kernel) (by omega), hL.ro (by decide +kernel) (by decide +kernel) (by decide +kernel) (by decide), hL.ro (by decide +kernel) (by decide +kernel) (by decide +kernel) (by decide), hL.ro (by decide +kernel) (by decide +kernel) (by decide +kernel) (by decide)⟩
theorem s_workAdd {n : Nat} {a b c : Int32} {Q : pm_H → Prop} (hL : La h) (hn : gi h 48 3 = nI n) (hn2 : n < 30) (w : Q (si (si (si (si h 50 n a) 52 n b) 54 n c) 48 3 (nI (n + 1)))) : cv G (d + 2) m_X10_add [.ref 48, .int a, .int b, .int c] h Q := by
  obtain ⟨a1, a2, a3, a4, r1, r2, r3, -⟩ := hL.wks
  have e : ∀ (h1 : pm_H) (x : Nat) (v : Int32), x ≠ 48 → gi (sm h1 (pm_u (gi h1) x n v)) 48 3 = gi h1 48 3 := fun h1 x v hx => congrFun (pm_u_ne (gi h1) n v (fun q => hx q.symm)) 3
  refine cv_wp rfl (Nat.le_of_ble_eq_true rfl) rfl (x_X10_add ⟨a1, ?_⟩)
  rw [a2]
  refine ⟨r1.1, row_set r1 ?_⟩
  rw [hn, wr_in hn2 (by decide)]
  refine ⟨a1, ?_⟩
  rw [show gp (sm h (pm_u (gi h) 50 n a)) 48 1 = 51 from a3]
  have r2' : Ro (sm h (pm_u (gi h) 50 n a)) 51 52 30 := r2
  refine ⟨r2.1, row_set r2' ?_⟩
  rw [e h 50 a (by decide), hn, wr_in hn2 (by decide)]
  refine ⟨a1, ?_⟩
  rw [show gp (sm (sm h (pm_u (gi h) 50 n a)) (pm_u (gi (sm h (pm_u (gi h) 50 n a))) 52 n b)) 48 2 = 53 from a4]
  have r3' : Ro (sm (sm h (pm_u (gi h) 50 n a)) (pm_u (gi (sm h (pm_u (gi h) 50 n a))) 52 n b)) 53 54 30 := r3
  refine ⟨r3.1, row_set r3' ?_⟩
  rw [e _ 52 b (by decide), e h 50 a (by decide), hn, wr_in hn2 (by decide)]
  refine ⟨a1, ?_⟩
  rw [e _ 54 c (by decide), e _ 52 b (by decide), e h 50 a (by decide), hn, nI_1]
  refine j_min ⟨a1, ?_⟩
  rintro _ rfl
  rw [if_neg (show ¬ (30 : Int32) < nI (n + 1) from fun q => by have := (nI_ltI (show 30 < 2 ^ 31 by decide) (show n + 1 < 2 ^ 31 by omega)).mp q; omega)]
  exact ⟨rfl, w⟩
end WKA
