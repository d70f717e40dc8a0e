/-! THE CLASS as it is made -/
def U0 : Nat → Nat → Bool := fun _ _ => false
def U11 (S : Nat → Bool) (i j : Nat) : Nat → Nat → Bool := fun x y => if x = 0 then S y else if x = 130 then decide (i ≤ y) else if x = 131 then decide (j ≤ y) else false
theorem U11_mk {S : Nat → Bool} {i j n : Nat} (h : 131 < n) : mkU n (U11 S i j) = U11 S i j := by
  funext x y
  unfold mkU U11
  by_cases c : n ≤ x
  · rw [if_pos c, if_neg (by omega), if_neg (by omega), if_neg (by omega)]
  · rw [if_neg c]
theorem U11_0 {S : Nat → Bool} {i j k : Nat} : puU 0 k (U11 S i j) = U11 (unS S k) i j := by
  funext x y
  unfold puU U11 unS
  by_cases c : x = 0
  · rw [if_pos c, if_pos c]
    by_cases c2 : y = k
    · rw [if_pos ⟨c, c2⟩, if_pos c2]
    · rw [if_neg (fun z => c2 z.2), if_neg c2]
  · rw [if_neg c, if_neg c, if_neg (fun z => c z.1)]
theorem U11_i {S : Nat → Bool} {i j : Nat} : puU 130 i (U11 S i j) = U11 S (i + 1) j := by
  funext x y
  unfold puU U11
  by_cases c : x = 130
  · rw [c, if_neg (show ¬ (130 : Nat) = 0 by decide), if_neg (show ¬ (130 : Nat) = 0 by decide), if_pos rfl, if_pos rfl]
    by_cases c2 : y = i
    · rw [if_pos ⟨rfl, c2⟩, decide_eq_false (by omega)]
    · rw [if_neg (fun z => c2 z.2)]
      exact decide_eq_decide.mpr (by omega)
  · rw [if_neg (fun z => c z.1), if_neg c, if_neg c]
theorem U11_j {S : Nat → Bool} {i j : Nat} : puU 131 j (U11 S i j) = U11 S i (j + 1) := by
  funext x y
  unfold puU U11
  by_cases c : x = 131
  · rw [c, if_neg (show ¬ (131 : Nat) = 0 by decide), if_neg (show ¬ (131 : Nat) = 0 by decide), if_neg (show ¬ (131 : Nat) = 130 by decide), if_neg (show ¬ (131 : Nat) = 130 by decide), if_pos rfl, if_pos rfl]
    by_cases c2 : y = j
    · rw [if_pos ⟨rfl, c2⟩, decide_eq_false (by omega)]
    · rw [if_neg (fun z => c2 z.2)]
      exact decide_eq_decide.mpr (by omega)
  · rw [if_neg (fun z => c z.1), if_neg c, if_neg c]
def S9 : Nat → Bool := unS (unS (unS (unS (unS (unS (unS (unS (unS (unS (unS (unS (unS ttS 0) 1) 2) 3) 4) 5) 6) 7) 8) 11) 14) 15) 16
theorem s9_ok : ∀ k ∈ List.range 17, S9 k = false ∨ P0 0 k = 2000 := by decide +kernel
theorem pas_t : ∀ i ∈ List.range 8, 136 + 31 * i ∈ FLs ∧ P0 130 i = 136 + 31 * i := by decide +kernel
theorem mrk_t : ∀ i ∈ List.range 2, 384 + 31 * i ∈ FLs ∧ P0 131 i = 384 + 31 * i := by decide +kernel
section CT4
variable {G : pm_G} {d : Nat} {h : pm_H} {n : Nat} {U : Nat → Nat → Bool}
theorem B_gp {a k : Nat} (b : B n U h) (ha : a < n) (hu : U a k = false) : gp h a k = P0 a k := by rw [b.2.2.1, if_pos ⟨ha, hu⟩]
theorem nw_gp {kd : Nat × Nat} {a k : Nat} (b : B n U h) (ha : a < n) : gp (pm_nw h kd) a k = gp h a k := by
  show pm_zr h.2.2.2.2 h.1.length 2000 a k = _
  unfold pm_zr
  rw [b.len, if_neg (by omega)]
theorem c11_marked {Q : pm_H → Prop} (k : ∀ h', B 446 U0 h' → gi h' 3 8 = 2 → Q h') : ∀ h : pm_H, B 384 (U11 S9 8 0) h → gi h 3 8 = 2 → Wp G (m_X11_init, d + 4, 445, 8774, fun v h1 => v = none ∧ Q h1) (383, 7936) 215 [.ref 0, .int 0] [] h := by
  have key := up_to (P := fun i => ∀ h : pm_H, B (384 + 31 * i) (U11 S9 8 i) h → gi h 3 8 = 2 → Wp G (m_X11_init, d + 4, 445, 8774, fun v h1 => v = none ∧ Q h1) (383 + 31 * i, 7936 + 419 * i) 215 [.ref 0, .int (nI i)] [] h) 2 (fun i hi ih => ?_) ?_
  · exact key
  · intro h b s2
    obtain ⟨t1, t2⟩ := mrk_t i (List.mem_range.mpr hi)
    have g14 : gp h 0 14 = 131 := (B_gp b (by omega) rfl).trans (by decide +kernel)
    have g1 : gp h 0 1 = 3 := (B_gp b (by omega) rfl).trans (by decide +kernel)
    refine x_X11_init_215 ⟨b.at (by omega) (by decide +kernel), 2, ?_⟩
    rw [g14, if_neg (show ¬ Int32.ofNat 2 ≤ nI i from li_no 2 2 rfl hi (by decide))]
    refine ⟨b.at (by omega) (by decide +kernel), b.lt, by omega, by omega, ?_⟩
    rintro _ rfl
    have t0 : K0[384 + 31 * i]? = some (0, 0) := (forT _ t1).1
    have b2 := b.new (kd := (0, 0)) t0 (Or.inl (show (0 : Nat) ≠ 1 by decide))
    refine ⟨b2.at (by omega) (by decide +kernel), nw_at, ?_⟩
    rw [nw_gp b (by omega), g1, b.len]
    refine cForest (d := d) b2 t1 (fun h4 c4 e4 => ?_)
    rw [U11_mk (by omega)] at c4
    refine ⟨2, c4.at (by omega) (by decide +kernel), vp_nI hi (by decide), c4.at (by omega) t0, ?_⟩
    rintro _ rfl
    rw [cl_nI (show i < 2 ^ 31 by omega), nI_1]
    have b6 := c4.put (a := 131) (k := i) (v := 384 + 31 * i) (by omega) t2
    rw [U11_j] at b6
    have e31 : 384 + 31 * i + 31 = 384 + 31 * (i + 1) := by omega
    rw [e31] at b6
    rw [show 383 + 31 * i + 1 + 30 = 383 + 31 * (i + 1) by omega, show 7936 + 419 * i + 16 + 403 = 7936 + 419 * (i + 1) by omega]
    refine ih _ b6 ?_
    exact (congrFun (e4 3 (by omega)) 8).trans ((congrFun (nw_gi (kd := (0, 0)) b (by omega)) 8).trans s2)
  · intro h b s2
    have g14 : gp h 0 14 = 131 := (B_gp b (by omega) rfl).trans (by decide +kernel)
    refine x_X11_init_215 ⟨b.at (by omega) (by decide +kernel), 2, ?_⟩
    rw [g14, if_pos (show Int32.ofNat 2 ≤ nI 2 from li_yes 2 2 rfl)]
    refine ⟨b.at (by omega) (by decide +kernel), by decide, by decide, rfl, k h (b.weak (fun a k ha => ?_)) s2⟩
    show false = U11 S9 8 2 a k ∨ _
    unfold U11
    by_cases c0 : a = 0
    · rw [if_pos c0, c0]
      by_cases ck : k < 17
      · rcases s9_ok k (List.mem_range.mpr ck) with z | z
        · exact Or.inl z.symm
        · exact Or.inr z
      · exact Or.inr (P0_big (Nat.le_trans (show (PT.getD 0 []).length ≤ 17 by decide +kernel) (by omega)))
    · rw [if_neg c0]
      by_cases c1 : a = 130
      · rw [if_pos c1, c1]
        by_cases ck : k < 8
        · exact Or.inl (decide_eq_false (by omega)).symm
        · exact Or.inr (P0_big (Nat.le_trans (show (PT.getD 130 []).length ≤ 8 by decide +kernel) (by omega)))
      · rw [if_neg c1]
        by_cases c2 : a = 131
        · rw [if_pos c2, c2]
          by_cases ck : k < 2
          · exact Or.inl (decide_eq_false (by omega)).symm
          · exact Or.inr (P0_big (Nat.le_trans (show (PT.getD 131 []).length ≤ 2 by decide +kernel) (by omega)))
        · rw [if_neg c2]; exact Or.inl rfl
theorem c11_past {Q : pm_H → Prop} (k : ∀ h', B 446 U0 h' → gi h' 3 8 = 2 → Q h') : ∀ h : pm_H, B 136 (U11 S9 0 0) h → gi h 3 8 = 2 → Wp G (m_X11_init, d + 4, 445, 8774, fun v h1 => v = none ∧ Q h1) (135, 4584) 181 [.ref 0, .int 0] [] h := by
  have key := up_to (P := fun i => ∀ h : pm_H, B (136 + 31 * i) (U11 S9 i 0) h → gi h 3 8 = 2 → Wp G (m_X11_init, d + 4, 445, 8774, fun v h1 => v = none ∧ Q h1) (135 + 31 * i, 4584 + 419 * i) 181 [.ref 0, .int (nI i)] [] h) 8 (fun i hi ih => ?_) ?_
  · exact key
  · intro h b s2
    obtain ⟨t1, t2⟩ := pas_t i (List.mem_range.mpr hi)
    have g11 : gp h 0 11 = 130 := (B_gp b (by omega) rfl).trans (by decide +kernel)
    have g1 : gp h 0 1 = 3 := (B_gp b (by omega) rfl).trans (by decide +kernel)
    refine x_X11_init_181 ⟨b.at (by omega) (by decide +kernel), 8, ?_⟩
    rw [g11, if_neg (show ¬ Int32.ofNat 8 ≤ nI i from li_no 8 8 rfl hi (by decide))]
    refine ⟨b.at (by omega) (by decide +kernel), b.lt, by omega, by omega, ?_⟩
    rintro _ rfl
    have t0 : K0[136 + 31 * i]? = some (0, 0) := (forT _ t1).1
    have b2 := b.new (kd := (0, 0)) t0 (Or.inl (show (0 : Nat) ≠ 1 by decide))
    refine ⟨b2.at (by omega) (by decide +kernel), nw_at, ?_⟩
    rw [nw_gp b (by omega), g1, b.len]
    refine cForest (d := d) b2 t1 (fun h4 c4 e4 => ?_)
    rw [U11_mk (by omega)] at c4
    refine ⟨8, c4.at (by omega) (by decide +kernel), vp_nI hi (by decide), c4.at (by omega) t0, ?_⟩
    rintro _ rfl
    rw [cl_nI (show i < 2 ^ 31 by omega), nI_1]
    have b6 := c4.put (a := 130) (k := i) (v := 136 + 31 * i) (by omega) t2
    rw [U11_i] at b6
    have e31 : 136 + 31 * i + 31 = 136 + 31 * (i + 1) := by omega
    rw [e31] at b6
    rw [show 135 + 31 * i + 1 + 30 = 135 + 31 * (i + 1) by omega, show 4584 + 419 * i + 16 + 403 = 4584 + 419 * (i + 1) by omega]
    refine ih _ b6 ?_
    exact (congrFun (e4 3 (by omega)) 8).trans ((congrFun (nw_gi (kd := (0, 0)) b (by omega)) 8).trans s2)
  · intro h b s2
    have g11 : gp h 0 11 = 130 := (B_gp b (by omega) rfl).trans (by decide +kernel)
    refine x_X11_init_181 ⟨b.at (by omega) (by decide +kernel), 8, ?_⟩
    rw [g11, if_pos (show Int32.ofNat 8 ≤ nI 8 from li_yes 8 8 rfl)]
    exact ⟨b.at (by omega) (by decide +kernel), c11_marked (d := d) k h b s2⟩
end CT4
