/-! THE CLASS: lines of a WORK added, copied -/
section WKA
variable {G : pm_G} {d : Nat} {h : pm_H}
theorem La.wks {h : pm_H} (hL : La h) : h.1[48]? = some (0, 9) ∧ gp h 48 0 = 49 ∧ gp h 48 1 = 51 ∧ gp h 48 2 = 53 ∧ Ro h 49 50 30 ∧ Ro h 51 52 30 ∧ Ro h 53 54 30 ∧ h.1[41]? = some (0, 9) ∧ gp h 41 0 = 42 ∧ gp h 41 1 = 44 ∧ gp h 41 2 = 46 ∧ Ro h 42 43 30 ∧ Ro h 44 45 30 ∧ Ro h 46 47 30 :=
  ⟨hL.k (by decide +kernel), hL.p (by decide +kernel) (by omega), hL.p (by decide +kernel) (by omega), hL.p (by decide +kernel) (by omega), hL.ro (by decide +kernel) (by decide +kernel) (by decide +kernel) (by decide), hL.ro (by decide +kernel) (by decide +kernel) (by decide +kernel) (by decide), hL.ro (by decide +kernel) (by decide +kernel) (by decide +kernel) (by decide), hL.k (by decide +kernel), hL.p (by decide +kernel) (by omega), hL.p (by decide +kernel) (by omega), hL.p (by decide +kernel) (by omega), hL.ro (by decide +kernel) (by decide +kernel) (by decide +kernel) (by decide), hL.ro (by decide +kernel) (by decide +kernel) (by decide +kernel) (by decide), hL.ro (by decide +kernel) (by decide +kernel) (by decide +kernel) (by decide)⟩
theorem s_workAdd {n : Nat} {a b c : Int32} {Q : pm_H → Prop} (hL : La h) (hn : gi h 48 3 = nI n) (hn2 : n < 30) (w : Q (si (si (si (si h 50 n a) 52 n b) 54 n c) 48 3 (nI (n + 1)))) : cv G (d + 2) m_X10_add [.ref 48, .int a, .int b, .int c] h Q := by
  obtain ⟨a1, a2, a3, a4, r1, r2, r3, -⟩ := hL.wks
  have e : ∀ (h1 : pm_H) (x : Nat) (v : Int32), x ≠ 48 → gi (sm h1 (pm_u (gi h1) x n v)) 48 3 = gi h1 48 3 := fun h1 x v hx => congrFun (pm_u_ne (gi h1) n v (fun q => hx q.symm)) 3
  refine cv_wp rfl (Nat.le_of_ble_eq_true rfl) rfl (x_X10_add ⟨a1, ?_⟩)
  rw [a2]
  refine ⟨r1.1, row_set r1 ?_⟩
  rw [hn, wr_in hn2 (by decide)]
  refine ⟨a1, ?_⟩
  rw [show gp (sm h (pm_u (gi h) 50 n a)) 48 1 = 51 from a3]
  have r2' : Ro (sm h (pm_u (gi h) 50 n a)) 51 52 30 := r2
  refine ⟨r2.1, row_set r2' ?_⟩
  rw [e h 50 a (by decide), hn, wr_in hn2 (by decide)]
  refine ⟨a1, ?_⟩
  rw [show gp (sm (sm h (pm_u (gi h) 50 n a)) (pm_u (gi (sm h (pm_u (gi h) 50 n a))) 52 n b)) 48 2 = 53 from a4]
  have r3' : Ro (sm (sm h (pm_u (gi h) 50 n a)) (pm_u (gi (sm h (pm_u (gi h) 50 n a))) 52 n b)) 53 54 30 := r3
  refine ⟨r3.1, row_set r3' ?_⟩
  rw [e _ 52 b (by decide), e h 50 a (by decide), hn, wr_in hn2 (by decide)]
  refine ⟨a1, ?_⟩
  rw [e _ 54 c (by decide), e _ 52 b (by decide), e h 50 a (by decide), hn, nI_1]
  refine j_min ⟨a1, ?_⟩
  rintro _ rfl
  rw [if_neg (show ¬ (30 : Int32) < nI (n + 1) from fun q => by have := (nI_ltI (show 30 < 2 ^ 31 by decide) (show n + 1 < 2 ^ 31 by omega)).mp q; omega)]
  exact ⟨rfl, w⟩
theorem cp_ne {M : Nat → Nat → Int32} {q q2 n a : Nat} (h : a ≠ q) : cpM M q q2 n a = M a := by
  funext j
  show (if a = q ∧ j < n then M q2 j else M a j) = _
  rw [if_neg (fun z => h z.1)]
theorem cp_at {M : Nat → Nat → Int32} {q q2 n j : Nat} (h : j < n) : cpM M q q2 n q j = M q2 j := by
  show (if q = q ∧ j < n then M q2 j else M q j) = _
  rw [if_pos ⟨rfl, h⟩]
theorem s_workCopy {Q : pm_H → Prop} (hL : La h) (w : ∀ h', h'.1 = h.1 → h'.2.2 = h.2.2 → (∀ a, a ≠ 41 → a ≠ 43 → a ≠ 45 → a ≠ 47 → gi h' a = gi h a) → gi h' 41 3 = gi h 48 3 → (∀ j, j < 30 → gi h' 43 j = gi h 50 j ∧ gi h' 45 j = gi h 52 j ∧ gi h' 47 j = gi h 54 j) → Q h') : cv G (d + 2) m_X10_copyFrom [.ref 41, .ref 48] h Q := by
  obtain ⟨a1, a2, a3, a4, r1, r2, r3, b1, b2, b3, b4, t1, t2, t3⟩ := hL.wks
  refine cv_wp rfl (Nat.le_of_ble_eq_true rfl) rfl (x_X10_copyFrom ⟨b1, a1, ?_⟩)
  rw [b2, a2]
  refine ⟨t1.1, row_copy (d := d) t1 r1 rfl ⟨b1, a1, ?_⟩⟩
  rw [show gp (sm h (cpM (gi h) 43 50 30)) 41 1 = 44 from b3, show gp (sm h (cpM (gi h) 43 50 30)) 48 1 = 51 from a3]
  refine ⟨t2.1, row_copy (d := d) (h := sm h (cpM (gi h) 43 50 30)) t2 r2 rfl ⟨b1, a1, ?_⟩⟩
  rw [show gp (sm (sm h (cpM (gi h) 43 50 30)) (cpM (gi (sm h (cpM (gi h) 43 50 30))) 45 52 30)) 41 2 = 46 from b4, show gp (sm (sm h (cpM (gi h) 43 50 30)) (cpM (gi (sm h (cpM (gi h) 43 50 30))) 45 52 30)) 48 2 = 53 from a4]
  refine ⟨t3.1, row_copy (d := d) (h := sm (sm h (cpM (gi h) 43 50 30)) (cpM (gi (sm h (cpM (gi h) 43 50 30))) 45 52 30)) t3 r3 rfl ⟨a1, b1, ?_⟩⟩
  rintro _ rfl
  have e : ∀ a, a ≠ 43 → a ≠ 45 → a ≠ 47 → cpM (cpM (cpM (gi h) 43 50 30) 45 52 30) 47 54 30 a = gi h a := fun a h1 h2 h3 => by rw [cp_ne h3, cp_ne h2, cp_ne h1]
  have v : gi (sm (sm (sm h (cpM (gi h) 43 50 30)) (cpM (gi (sm h (cpM (gi h) 43 50 30))) 45 52 30)) (cpM (gi (sm (sm h (cpM (gi h) 43 50 30)) (cpM (gi (sm h (cpM (gi h) 43 50 30))) 45 52 30))) 47 54 30)) 48 3 = gi h 48 3 := congrFun (e 48 (by decide) (by decide) (by decide)) 3
  rw [v]
  refine ⟨rfl, w _ rfl rfl (fun a h1 h2 h3 h4 => (pm_u_ne _ _ _ h1).trans (e a h2 h3 h4)) ?_ (fun j hj => ⟨?_, ?_, ?_⟩)⟩
  · show pm_u (cpM (cpM (cpM (gi h) 43 50 30) 45 52 30) 47 54 30) 41 3 (gi h 48 3) 41 3 = _
    rw [pm_u_at]; exact if_pos rfl
  · show pm_u (cpM (cpM (cpM (gi h) 43 50 30) 45 52 30) 47 54 30) 41 3 (gi h 48 3) 43 j = _
    rw [pm_u_ne _ _ _ (show 43 ≠ 41 by decide), cp_ne (show 43 ≠ 47 by decide), cp_ne (show 43 ≠ 45 by decide), cp_at hj]
  · show pm_u (cpM (cpM (cpM (gi h) 43 50 30) 45 52 30) 47 54 30) 41 3 (gi h 48 3) 45 j = _
    rw [pm_u_ne _ _ _ (show 45 ≠ 41 by decide), cp_ne (show 45 ≠ 47 by decide), cp_at hj, cp_ne (show 52 ≠ 43 by decide)]
  · show pm_u (cpM (cpM (cpM (gi h) 43 50 30) 45 52 30) 47 54 30) 41 3 (gi h 48 3) 47 j = _
    rw [pm_u_ne _ _ _ (show 47 ≠ 41 by decide), cp_at hj, cp_ne (show 54 ≠ 45 by decide), cp_ne (show 54 ≠ 43 by decide)]
end WKA
