/-! THE CLASS: a QUEUE copied, from its keys on -/
section PCP
variable {G : pm_G} {d : Nat} {h : pm_H}
theorem s_keyOf22 {n : Nat} {Q : UInt32 → pm_H → Prop} (hL : La h) (hn : n < 20) (w : Q (gf h 35 n) h) : cf G (d + 1) m_X4_keyOf [.ref 22, .int (nI n)] h Q := by
  have g6 : gp h 22 6 = 35 := hL.p (by decide +kernel) (by omega)
  have kk : h.1[35]? = some (4, 20) := hL.k (by decide +kernel)
  refine cf_wp rfl (Nat.le_of_ble_eq_true rfl) rfl (x_X4_keyOf ?_)
  rw [if_neg (nI_pos (by omega)), g6]
  refine ⟨hL.pl.1, 20, kk, ?_⟩
  rw [if_neg (show ¬ Int32.ofNat 20 ≤ nI n from nI_nlen hn (by decide)), cl_nI (show n < 2 ^ 31 by omega)]
  exact ⟨vp_nI hn (by decide), _, rfl, w⟩
theorem s_plan68 {Q : pm_H → Prop} (hL : La h) (w : ∀ h', h'.1 = h.1 → (∀ a, a ≠ 3 → a ≠ 17 → a ≠ 19 → gi h' a = gi h a) → gj h' = gj h → gp h' = gp h → (∀ a, a ≠ 16 → gf h' a = gf h a) → (∀ j, j < 20 → gf h' 16 j = gf h 35 j) → gi h' 3 8 = gi h 22 8 → gi h' 17 1 = gi h 36 1 → (∀ j, j < 1000 → gi h' 19 j = gi h 38 j) → Q h') : Wp G (m_X4_copyFrom, d + 3, 0, 0, fun v h1 => v = none ∧ Q h1) (0, 0) 68 [.ref 3, .ref 22, .int 0] [] h := by
  have key := up_to (P := fun n => ∀ hX : pm_H, hX.1 = h.1 → gi hX = gi h → gj hX = gj h → gp hX = gp h → (∀ a, a ≠ 16 → gf hX a = gf h a) → (∀ j, j < n → gf hX 16 j = gf h 35 j) → Wp G (m_X4_copyFrom, d + 3, 0, 0, fun v h1 => v = none ∧ Q h1) (0, 0) 68 [.ref 3, .ref 22, .int (nI n)] [] hX) 20 (fun n hn ih => ?_) ?_
  · exact key h rfl rfl rfl rfl (fun _ _ => rfl) (fun j hj => absurd hj (Nat.not_lt_zero j))
  · intro hX e1 e2 e3 e4 e5 e6
    have hLX : La hX := ⟨e1.trans hL.1, fun a k hx => by rw [e4]; exact hL.2 a k hx⟩
    have p3 : hX.1[3]? = some (0, 4) := hLX.k (by decide +kernel)
    have g6 : gp hX 3 6 = 16 := hLX.p (by decide +kernel) (by omega)
    have kk : hX.1[16]? = some (4, 20) := hLX.k (by decide +kernel)
    refine x_X4_copyFrom_68 ⟨p3, 20, by rw [g6]; exact kk, ?_⟩
    rw [if_neg (show ¬ Int32.ofNat 20 ≤ nI n from nI_nlen hn (by decide)), nI_1, g6]
    refine ⟨hLX.pl.1, s_keyOf22 (d := d + 1) hLX hn ⟨20, kk, vp_nI hn (by decide), ?_⟩⟩
    rintro _ rfl
    rw [cl_nI (show n < 2 ^ 31 by omega)]
    refine ih _ e1 e2 e3 e4 (fun a ha => (pm_u_ne _ _ _ ha).trans (e5 a ha)) (fun j hj => ?_)
    show pm_u (gf hX) 16 n (gf hX 35 n) 16 j = _
    rw [pm_u_at]
    unfold pm_ui
    by_cases c : j = n
    · rw [if_pos c, c, e5 35 (by decide)]
    · rw [if_neg c]; exact e6 j (by omega)
  · intro hX e1 e2 e3 e4 e5 e6
    have hLX : La hX := ⟨e1.trans hL.1, fun a k hx => by rw [e4]; exact hL.2 a k hx⟩
    have p3 : hX.1[3]? = some (0, 4) := hLX.k (by decide +kernel)
    have g6 : gp hX 3 6 = 16 := hLX.p (by decide +kernel) (by omega)
    have g7 : gp hX 3 7 = 17 := hLX.p (by decide +kernel) (by omega)
    have g72 : gp hX 22 7 = 36 := hLX.p (by decide +kernel) (by omega)
    have kk : hX.1[16]? = some (4, 20) := hLX.k (by decide +kernel)
    refine x_X4_copyFrom_68 ⟨p3, 20, by rw [g6]; exact kk, ?_⟩
    rw [if_pos (show Int32.ofNat 20 ≤ nI 20 from nI_len), g7, g72]
    refine ⟨hLX.pl.1, hLX.lr.1, s_lawCopy (d := d) hLX (fun h3 f1 f2 f3 f4 f5 => ?_)⟩
    rw [f1]
    refine ⟨hLX.pl.1, p3, ?_⟩
    rintro _ rfl
    have j3 : gj h3 = gj hX := by show h3.2.2.1 = hX.2.2.1; rw [f2]
    have q3 : gp h3 = gp hX := by show h3.2.2.2.2 = hX.2.2.2.2; rw [f2]
    have t3 : gf h3 = gf hX := by show h3.2.2.2.1 = hX.2.2.2.1; rw [f2]
    have n3 : ∀ a, a ≠ 3 → gi (si h3 3 8 (gi h3 22 8)) a = gi h3 a := fun a ha => pm_u_ne _ _ _ ha
    refine ⟨rfl, w _ (f1.trans e1) (fun a a1 a2 a3 => (n3 a a1).trans ((f3 a a2 a3).trans (congrFun e2 a))) (j3.trans e3) (q3.trans e4) (fun a ha => (congrFun t3 a).trans (e5 a ha)) (fun j hj => (congrFun (congrFun t3 16) j).trans (e6 j hj)) ?_ ?_ (fun j hj => ?_)⟩
    · show pm_u (gi h3) 3 8 (gi h3 22 8) 3 8 = _
      rw [pm_u_at, f3 22 (by decide) (by decide), e2]; exact if_pos rfl
    · rw [n3 17 (by decide), f4, e2]
    · rw [n3 19 (by decide), f5 j hj, e2]
end PCP
