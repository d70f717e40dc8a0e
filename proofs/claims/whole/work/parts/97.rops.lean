/-! THE REFERENCE's operations are these, too -/
theorem Okx.i31 {lo hi x : Nat} (h : Okx lo hi x) (hh : hi ≤ 254) : x < 2 ^ 31 := by
  rcases h with q | ⟨q1, q2⟩ <;> omega
theorem zI_eq {a b : Int} (h : a = b) : zI a = zI b := by rw [h]
/-- a far smaller one adds nothing -/
theorem sum_far {c1 c2 a E2 : Nat} (h1 : 8388608 ≤ c1) (h2 : c1 < 16777216) (h3 : c2 < 16777216) (ha : 36 < a) : rn1 (c1 * 2 ^ a + c2) (E2 + (c1 * 2 ^ a + c2).log2 - 23) = (E2 + a) * 8388608 + (c1 - 8388608) := by
  have p25 : 2 ^ 25 ≤ 2 ^ a := Nat.pow_le_pow_right (by decide) (by omega)
  rw [show (2 : Nat) ^ 25 = 33554432 from by decide] at p25
  have a1 := Nat.mul_le_mul_right (2 ^ a) h1
  have a2 : (c1 + 1) * 2 ^ a ≤ 16777216 * 2 ^ a := Nat.mul_le_mul_right (2 ^ a) (by omega)
  rw [Nat.add_mul, Nat.one_mul] at a2
  have lg : (c1 * 2 ^ a + c2).log2 = 23 + a := by
    refine lg_eq ?_ ?_
    · rw [Nat.pow_add, p2_23]; omega
    · rw [show 23 + a + 1 = 24 + a by omega, Nat.pow_add, p2_24]; omega
  rw [lg]
  unfold rn1
  rw [lg, if_neg (by omega), show 23 + a - 23 = a by omega, show E2 + (23 + a) - 23 = E2 + a by omega]
  unfold rnA FP.Core.nearest
  have m : (c1 * 2 ^ a + c2) % 2 ^ a = c2 := by
    rw [Nat.mul_comm, Nat.mul_add_mod, Nat.mod_eq_of_lt (by omega)]
  have q : (c1 * 2 ^ a + c2) / 2 ^ a = c1 := by
    rw [Nat.mul_comm, Nat.mul_add_div (Nat.two_pow_pos a), Nat.div_eq_of_lt (by omega), Nat.add_zero]
  rw [m, q, if_pos (by omega)]
section ROP
variable {G : pm_G} {d : Nat} {h : pm_H}
theorem r_digits {x : Nat} {Q : Int64 → pm_H → Prop} (hx : x < 2 ^ 31) (k : Q (lN (sgC x)) h) : cl G (d + 1) m_X12_digits [.int (nI x)] h Q := by
  refine cl_wp rfl (Nat.le_of_ble_eq_true rfl) rfl (x_X12_digits ?_)
  unfold sgC at k
  by_cases z : x = 0
  · rw [if_pos (show nI x = 0 by rw [z]; rfl)]
    rw [if_pos z] at k
    exact ⟨_, rfl, k⟩
  · rw [if_neg (show ¬ nI x = 0 from fun q => z ((nI_inj (b := 0) hx (by decide)).mp q)), show (8388608 : Int32) = nI 8388608 from rfl, pk_rem hx (by decide) (by decide), nI_l (by omega), show (8388608 : Int64) = lN 8388608 from rfl, lN_add]
    rw [if_neg z] at k
    exact ⟨_, rfl, k⟩
theorem r_place {x : Nat} {Q : Int32 → pm_H → Prop} (hx : x < 2 ^ 31) (k : Q (zI ((sgE x : Int) - 150)) h) : ci G (d + 1) m_X12_place [.int (nI x)] h Q := by
  refine ci_wp rfl (Nat.le_of_ble_eq_true rfl) rfl (x_X12_place ?_)
  rw [pk_shrN hx (23 &&& 31) 23 (by decide), p2_23, nI_z, zI_150, zI_sub]
  exact ⟨_, rfl, k⟩
theorem r_near0 {pl : Int32} {b : Bool} {Q : Int32 → pm_H → Prop} (k : Q (nI 0) h) : ci G (d + 2) m_X12_nearest [.long (lN 0), .int pl, .int (b2i b)] h Q := by
  refine ci_wp rfl (Nat.le_of_ble_eq_true rfl) rfl (x_X12_nearest ?_)
  rw [if_pos (show lg_cmp (lN 0) (0 : Int64) = 0 from rfl)]
  exact ⟨_, rfl, k⟩
theorem r_ofWhole {n : Nat} {Q : Int32 → pm_H → Prop} (hn : n < 2 ^ 20) (k : Q (nI (whoS n)) h) : ci G (d + 3) m_X12_ofWhole [.int (nI n)] h Q := by
  refine ci_wp rfl (Nat.le_of_ble_eq_true rfl) rfl (x_X12_ofWhole ?_)
  rw [nI_l (by omega)]
  unfold whoS at k
  by_cases z : n = 0
  · rw [if_pos z] at k
    rw [z]
    exact r_near0 (d := d) (b := false) ⟨_, rfl, k⟩
  · rw [if_neg z, rn1_V (by omega)] at k
    obtain ⟨l1, l2⟩ := lg_le (show 0 < n by omega)
    have lg : n.log2 < 20 := (Nat.pow_lt_pow_iff_right (by decide : 1 < 2)).mp (Nat.lt_of_le_of_lt l1 hn)
    exact r_nearest (d := d) (b := false) (p := 0) (E := n.log2 + 127) (by omega) (by omega) rfl (by omega) (by omega) ⟨_, rfl, k⟩
theorem ap_i {a b : Nat} (h : b ≤ a) : zI ((a : Int) - 150) - zI ((b : Int) - 150) = nI (a - b) := by
  rw [zI_sub, nI_z]
  exact zI_eq (by omega)
theorem r_adds {lo hi x y : Nat} {Q : Int32 → pm_H → Prop} (hx : Okx lo hi x) (hy : Okx lo hi y) (hl : 1 ≤ lo) (hh : hi ≤ 200) (k : Q (nI (addS x y)) h) : ci G (d + 3) m_X12_adds [.int (nI x), .int (nI y)] h Q := by
  have x31 := hx.i31 (by omega)
  have y31 := hy.i31 (by omega)
  have gen : ∀ u w : Nat, Okx lo hi u → Okx lo hi w → w ≤ u → Q (nI (if w = 0 then u else rn1 (sgC u * 2 ^ (sgE u - sgE w) + sgC w) (sgE w + (sgC u * 2 ^ (sgE u - sgE w) + sgC w).log2 - 23))) h →
      ci G (d + 2) m_X12_place [.int (nI u)] h fun r1 h2 => ci G (d + 2) m_X12_place [.int (nI w)] h2 fun r3 h4 => if nI w = 0 then ∃ r, some (Value.int (nI u)) = some (.int r) ∧ Q r h4 else if r1 - r3 ≤ 36 then cl G (d + 2) m_X12_digits [.int (nI u)] h4 fun r5 h6 => cl G (d + 2) m_X12_digits [.int (nI w)] h6 fun r7 h8 => ci G (d + 2) m_X12_place [.int (nI w)] h8 fun r9 h10 => ci G (d + 2) m_X12_nearest [.long ((r5 <<< ((r1 - r3 : Int32).toInt64 &&& 63)) + r7), .int r9, .int 0] h10 fun r11 h12 => ∃ r, some (Value.int r11) = some (.int r) ∧ Q r h12 else ∃ r, some (Value.int (nI u)) = some (.int r) ∧ Q r h4 := by
    intro u w hu hw hwu k
    have u31 := hu.i31 (by omega)
    have w31 := hw.i31 (by omega)
    refine r_place (d := d + 1) u31 (r_place (d := d + 1) w31 ?_)
    by_cases w0 : w = 0
    · rw [if_pos (show nI w = 0 by rw [w0]; rfl)]
      rw [if_pos w0] at k
      exact ⟨_, rfl, k⟩
    · have u0 : u ≠ 0 := by omega
      obtain ⟨⟨b1, b2, b3, b4, b5⟩, b6, b7⟩ := hu.sg u0 hl (by omega)
      obtain ⟨⟨c1, c2, c3, c4, c5⟩, c6, c7⟩ := hw.sg w0 hl (by omega)
      have le := (sg_le (hu.mono hl (by omega)) (hw.mono hl (by omega)) w0 hwu).1
      rw [if_neg w0] at k
      rw [if_neg (show ¬ nI w = 0 from fun q => w0 ((nI_inj (b := 0) w31 (by decide)).mp q)), ap_i le]
      by_cases c : sgE u - sgE w ≤ 36
      · rw [if_pos (show nI (sgE u - sgE w) ≤ 36 by rw [i_le, nI_toInt (by omega)]; show _ ≤ (36 : Int); omega)]
        refine r_digits (d := d + 1) u31 (r_digits (d := d + 1) w31 (r_place (d := d + 1) w31 ?_))
        rw [wb_shl _ (show sgE u - sgE w < 64 by omega), lN_add]
        obtain ⟨s1, s2, s3⟩ := sum_lg (a := sgE u - sgE w) b2 b3 c3
        have lt : sgC u * 2 ^ (sgE u - sgE w) + sgC w < 2 ^ 62 := by
          have p : 2 ^ (sgE u - sgE w) ≤ 2 ^ 36 := Nat.pow_le_pow_right (by decide) c
          have : sgC u * 2 ^ (sgE u - sgE w) ≤ sgC u * 2 ^ 36 := Nat.mul_le_mul_left _ p
          rw [show (2 : Nat) ^ 36 = 68719476736 from by decide] at this
          omega
        rw [rn1_V s1] at k
        exact r_nearest (d := d) (b := false) (p := (sgE w : Int) - 150) (E := sgE w + (sgC u * 2 ^ (sgE u - sgE w) + sgC w).log2 - 23) s1 lt rfl (by omega) (by omega) ⟨_, rfl, k⟩
      · rw [if_neg (show ¬ nI (sgE u - sgE w) ≤ 36 by rw [i_le, nI_toInt (by omega)]; show ¬ _ ≤ (36 : Int); omega)]
        rw [sum_far b2 b3 c3 (by omega), show (sgE w + (sgE u - sgE w)) = sgE u by omega, ← b1] at k
        exact ⟨_, rfl, k⟩
  refine ci_wp rfl (Nat.le_of_ble_eq_true rfl) rfl (x_X12_adds ?_)
  unfold addS at k
  by_cases c : x ≤ y
  · have ci1 : nI x ≤ nI y := by rw [i_le, nI_toInt x31, nI_toInt y31]; omega
    rw [if_pos ci1, if_pos ci1]
    rw [show max x y = y by omega, show min x y = x by omega] at k
    exact gen y x hy hx c k
  · have ci1 : ¬ nI x ≤ nI y := by rw [i_le, nI_toInt x31, nI_toInt y31]; omega
    rw [if_neg ci1, if_neg ci1]
    rw [show max x y = x by omega, show min x y = y by omega] at k
    exact gen x y hx hy (by omega) k
theorem r_lessens {lo hi x y : Nat} {Q : Int32 → pm_H → Prop} (hx : Okx lo hi x) (hy : Okx lo hi y) (hl : 24 ≤ lo) (hh : hi ≤ 200) (hd : hi ≤ lo + 36) (hyx : y ≤ x) (k : Q (nI (subS x y)) h) : ci G (d + 3) m_X12_lessens [.int (nI x), .int (nI y)] h Q := by
  have x31 := hx.i31 (by omega)
  have y31 := hy.i31 (by omega)
  refine ci_wp rfl (Nat.le_of_ble_eq_true rfl) rfl (x_X12_lessens (r_place (d := d + 1) x31 (r_place (d := d + 1) y31 ?_)))
  unfold subS at k
  by_cases y0 : y = 0
  · rw [if_pos (show nI y = 0 by rw [y0]; rfl)]
    rw [if_pos y0] at k
    exact ⟨_, rfl, k⟩
  · have x0 : x ≠ 0 := by omega
    obtain ⟨⟨b1, b2, b3, b4, b5⟩, b6, b7⟩ := hx.sg x0 (by omega) (by omega)
    obtain ⟨⟨c1, c2, c3, c4, c5⟩, c6, c7⟩ := hy.sg y0 (by omega) (by omega)
    obtain ⟨le, lv⟩ := sg_le (hx.mono (by omega) (by omega)) (hy.mono (by omega) (by omega)) y0 hyx
    rw [if_neg y0] at k
    rw [if_neg (show ¬ nI y = 0 from fun q => y0 ((nI_inj (b := 0) y31 (by decide)).mp q)), ap_i le, if_pos (show nI (sgE x - sgE y) ≤ 36 by rw [i_le, nI_toInt (by omega)]; show _ ≤ (36 : Int); omega)]
    refine r_digits (d := d + 1) x31 (r_digits (d := d + 1) y31 (r_place (d := d + 1) y31 ?_))
    rw [wb_shl _ (show sgE x - sgE y < 64 by omega), lN_sub lv]
    have lt : sgC x * 2 ^ (sgE x - sgE y) - sgC y < 2 ^ 62 := by
      have p : 2 ^ (sgE x - sgE y) ≤ 2 ^ 36 := Nat.pow_le_pow_right (by decide) (by omega)
      have : sgC x * 2 ^ (sgE x - sgE y) ≤ sgC x * 2 ^ 36 := Nat.mul_le_mul_left _ p
      rw [show (2 : Nat) ^ 36 = 68719476736 from by decide] at this
      omega
    have l24 : (sgC x * 2 ^ (sgE x - sgE y) - sgC y).log2 ≤ 61 := by
      by_cases z : sgC x * 2 ^ (sgE x - sgE y) - sgC y = 0
      · rw [z]; decide
      · obtain ⟨l1, l2⟩ := lg_le (show 0 < sgC x * 2 ^ (sgE x - sgE y) - sgC y by omega)
        have := (Nat.pow_lt_pow_iff_right (by decide : 1 < 2)).mp (Nat.lt_of_le_of_lt l1 lt)
        omega
    by_cases z : sgC x * 2 ^ (sgE x - sgE y) - sgC y = 0
    · rw [if_pos z] at k
      rw [z]
      exact r_near0 (d := d) (b := false) ⟨_, rfl, k⟩
    · rw [if_neg z, rn1_V (by omega)] at k
      have up : (sgC x * 2 ^ (sgE x - sgE y) - sgC y).log2 ≤ 23 + (sgE x - sgE y) := by
        obtain ⟨l1, l2⟩ := lg_le (show 0 < sgC x * 2 ^ (sgE x - sgE y) - sgC y by omega)
        have a2 := Nat.mul_lt_mul_of_pos_right b3 (Nat.two_pow_pos (sgE x - sgE y))
        have : 2 ^ (sgC x * 2 ^ (sgE x - sgE y) - sgC y).log2 < 2 ^ (24 + (sgE x - sgE y)) := by
          rw [Nat.pow_add 2 24, p2_24]; omega
        have := (Nat.pow_lt_pow_iff_right (by decide : 1 < 2)).mp this
        omega
      exact r_nearest (d := d) (b := false) (p := (sgE y : Int) - 150) (E := sgE y + (sgC x * 2 ^ (sgE x - sgE y) - sgC y).log2 - 23) (by omega) lt rfl (by omega) (by omega) ⟨_, rfl, k⟩
theorem r_multiplies {x y : Nat} {Q : Int32 → pm_H → Prop} (hx : Okx 1 253 x) (hy : Okx 1 253 y) (hb : x ≠ 0 → y ≠ 0 → 130 ≤ sgE x + sgE y ∧ sgE x + sgE y ≤ 370) (k : Q (nI (mulS x y)) h) : ci G (d + 3) m_X12_multiplies [.int (nI x), .int (nI y)] h Q := by
  have x31 := hx.i31 (by omega)
  have y31 := hy.i31 (by omega)
  refine ci_wp rfl (Nat.le_of_ble_eq_true rfl) rfl (x_X12_multiplies ?_)
  unfold mulS at k
  by_cases x0 : x = 0
  · rw [if_pos (show nI x = 0 by rw [x0]; rfl)]
    rw [if_pos (Or.inl x0)] at k
    exact ⟨_, rfl, k⟩
  · rw [if_neg (show ¬ nI x = 0 from fun q => x0 ((nI_inj (b := 0) x31 (by decide)).mp q))]
    by_cases y0 : y = 0
    · rw [if_pos (show nI y = 0 by rw [y0]; rfl)]
      rw [if_pos (Or.inr y0)] at k
      exact ⟨_, rfl, k⟩
    · rw [if_neg (show ¬ nI y = 0 from fun q => y0 ((nI_inj (b := 0) y31 (by decide)).mp q))]
      obtain ⟨h1, h2⟩ := hb x0 y0
      obtain ⟨⟨b1, b2, b3, b4, b5⟩, b6, b7⟩ := hx.sg x0 (by omega) (by omega)
      obtain ⟨⟨c1, c2, c3, c4, c5⟩, c6, c7⟩ := hy.sg y0 (by omega) (by omega)
      obtain ⟨s1, s2, s3⟩ := mul_lg b2 b3 c2 c3
      have lt : sgC x * sgC y < 2 ^ 62 := by
        have : sgC x * sgC y < 16777216 * 16777216 := Nat.mul_lt_mul'' b3 c3
        omega
      rw [if_neg (fun q => q.elim x0 y0), rn1_V s1] at k
      refine r_digits (d := d + 1) x31 (r_digits (d := d + 1) y31 (r_place (d := d + 1) x31 (r_place (d := d + 1) y31 ?_)))
      rw [lN_mul, zI_add]
      exact r_nearest (d := d) (b := false) (p := (sgE x : Int) - 150 + ((sgE y : Int) - 150)) (E := sgE x + sgE y + (sgC x * sgC y).log2 - 173) s1 lt rfl (by omega) (by omega) ⟨_, rfl, k⟩
theorem r_divides {x y : Nat} {Q : Int32 → pm_H → Prop} (hx : Okx 1 253 x) (hy : Okx 1 253 y) (y0 : y ≠ 0) (hb : x ≠ 0 → sgE y + 2 ≤ sgE x + 127 ∧ sgE x + 127 ≤ sgE y + 252) (k : Q (nI (divS x y)) h) : ci G (d + 3) m_X12_divides [.int (nI x), .int (nI y)] h Q := by
  have x31 := hx.i31 (by omega)
  have y31 := hy.i31 (by omega)
  refine ci_wp rfl (Nat.le_of_ble_eq_true rfl) rfl (x_X12_divides ?_)
  unfold divS at k
  by_cases x0 : x = 0
  · rw [if_pos (show nI x = 0 by rw [x0]; rfl)]
    rw [if_pos x0] at k
    exact ⟨_, rfl, k⟩
  · rw [if_neg (show ¬ nI x = 0 from fun q => x0 ((nI_inj (b := 0) x31 (by decide)).mp q))]
    rw [if_neg x0] at k
    obtain ⟨h1, h2⟩ := hb x0
    obtain ⟨⟨b1, b2, b3, b4, b5⟩, b6, b7⟩ := hx.sg x0 (by omega) (by omega)
    obtain ⟨⟨c1, c2, c3, c4, c5⟩, c6, c7⟩ := hy.sg y0 (by omega) (by omega)
    obtain ⟨e1, e2, e3, e4⟩ := rnA_V (E := sgE x + 127 - (if sgC y ≤ sgC x then 0 else 1) - sgE y) b2 b3 c2 c3
    rw [e1] at k
    have nz : ¬ lN (sgC y) = 0 := by
      rw [show (0 : Int64) = lN 0 from rfl, pk_lEQ (by omega) (by decide)]
      omega
    have N63 : sgC x * 2 ^ 38 < 2 ^ 63 := by rw [p2_38]; omega
    have sh : lN (sgC x) <<< ((38 : Int32).toInt64 &&& 63) = lN (sgC x * 2 ^ 38) := wb_shl _ (show 38 < 64 by decide)
    have pl : zI ((sgE x : Int) - 150) - 38 - zI ((sgE y : Int) - 150) = zI ((sgE x : Int) - 38 - sgE y) := by
      rw [zI_38, zI_sub, zI_sub]
      exact zI_eq (by omega)
    have E1 : ((sgE x + 127 - (if sgC y ≤ sgC x then 0 else 1) - sgE y : Nat) : Int) = ((sgE x : Int) - 38 - sgE y) + ((sgC x * 2 ^ 38 / sgC y).log2 : Int) - 23 + 150 := by
      rw [e2]
      split <;> omega
    have E2 : sgE x + 127 - (if sgC y ≤ sgC x then 0 else 1) - sgE y < 255 := by omega
    have q62 : sgC x * 2 ^ 38 / sgC y < 2 ^ 62 := Nat.lt_trans e4 (by decide)
    refine r_digits (d := d + 1) x31 (r_digits (d := d + 1) y31 ⟨nz, r_place (d := d + 1) x31 (r_place (d := d + 1) y31 (r_digits (d := d + 1) y31 ⟨nz, ?_⟩))⟩)
    rw [sh, pk_lRem N63 (by omega) (by omega), pk_lDiv N63 (by omega) (by omega), pl, show (0 : Int64) = lN 0 from rfl]
    have rl : sgC x * 2 ^ 38 % sgC y < 2 ^ 63 := Nat.lt_of_le_of_lt (Nat.mod_le _ _) N63
    by_cases c : sgC x * 2 ^ 38 % sgC y = 0
    · rw [if_pos ((lcmp_e rl (by decide)).1.mpr c)]
      rw [decide_eq_false (fun q => q c)] at k
      exact r_nearest (d := d) (b := false) e3 q62 rfl E1 E2 ⟨_, rfl, k⟩
    · rw [if_neg (fun q => c ((lcmp_e rl (by decide)).1.mp q))]
      rw [decide_eq_true c] at k
      exact r_nearest (d := d) (b := true) e3 q62 rfl E1 E2 ⟨_, rfl, k⟩
theorem r_cutsOf {x : Nat} {Q : Int32 → pm_H → Prop} (hx : Okx 1 156 x) (k : Q (nI (cutS x)) h) : ci G (d + 2) m_X12_cutsOf [.int (nI x)] h Q := by
  have x31 := hx.i31 (by omega)
  refine ci_wp rfl (Nat.le_of_ble_eq_true rfl) rfl (x_X12_cutsOf (r_place (d := d) x31 ?_))
  unfold cutS at k
  by_cases x0 : x = 0
  · rw [if_pos (show nI x = 0 by rw [x0]; rfl)]
    rw [if_pos x0] at k
    exact ⟨_, rfl, k⟩
  · rw [if_neg (show ¬ nI x = 0 from fun q => x0 ((nI_inj (b := 0) x31 (by decide)).mp q))]
    rw [if_neg x0] at k
    obtain ⟨⟨b1, b2, b3, b4, b5⟩, b6, b7⟩ := hx.sg x0 (by omega) (by omega)
    have ti : (zI ((sgE x : Int) - 150)).toInt = (sgE x : Int) - 150 := by
      show (BitVec.ofInt 32 _).toInt = _
      rw [BitVec.toInt_ofInt]
      simp only [Int.bmod]
      omega
    by_cases c0 : sgE x < 120
    · rw [if_neg (show ¬ (-30 : Int32) ≤ zI ((sgE x : Int) - 150) by rw [i_le, ti]; show ¬ (-30 : Int) ≤ _; omega)]
      have p : 2 ^ 31 ≤ 2 ^ (150 - sgE x) := Nat.pow_le_pow_right (by decide) (by omega)
      rw [if_pos (by omega), Nat.div_eq_of_lt (by omega)] at k
      exact ⟨_, rfl, k⟩
    · rw [if_pos (show (-30 : Int32) ≤ zI ((sgE x : Int) - 150) by rw [i_le, ti]; show (-30 : Int) ≤ _; omega)]
      by_cases c : sgE x < 150
      · rw [if_neg (show ¬ (0 : Int32) ≤ zI ((sgE x : Int) - 150) by rw [i_le, ti]; show ¬ (0 : Int) ≤ _; omega)]
        rw [if_pos c] at k
        refine r_digits (d := d) x31 ?_
        rw [show -zI ((sgE x : Int) - 150) = nI (150 - sgE x) by rw [zI_neg, nI_z]; exact zI_eq (by omega), lsh (by omega) (by omega), lN_i]
        exact ⟨_, rfl, k⟩
      · rw [if_pos (show (0 : Int32) ≤ zI ((sgE x : Int) - 150) by rw [i_le, ti]; show (0 : Int) ≤ _; omega)]
        rw [if_neg c] at k
        refine r_digits (d := d) x31 ?_
        rw [show zI ((sgE x : Int) - 150) = nI (sgE x - 150) by rw [nI_z]; exact zI_eq (by omega), wb_shl _ (show sgE x - 150 < 64 by omega), lN_i]
        exact ⟨_, rfl, k⟩
end ROP
