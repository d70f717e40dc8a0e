/-! the machine's float instructions are these operations -/
theorem rn1_exact {c k E : Nat} (h1 : 8388608 ≤ c) (h2 : c < 16777216) : (c * 2 ^ k).log2 = 23 + k ∧ rn1 (c * 2 ^ k) E = E * 8388608 + (c - 8388608) := by
  have lg : (c * 2 ^ k).log2 = 23 + k := by
    refine lg_eq ?_ ?_
    · rw [Nat.pow_add, p2_23]; exact Nat.mul_le_mul_right _ h1
    · rw [show 23 + k + 1 = 24 + k by omega, Nat.pow_add, p2_24]; exact Nat.mul_lt_mul_of_pos_right h2 (Nat.two_pow_pos k)
  refine ⟨lg, ?_⟩
  unfold rn1
  rw [lg]
  by_cases z : 23 + k ≤ 23
  · rw [if_pos z, show k = 0 by omega]
    simp
  · rw [if_neg z, show 23 + k - 23 = k by omega]
    unfold rnA
    rw [near_mul (Nat.two_pow_pos k)]
theorem sgE_0 : sgE 0 = 0 := rfl
theorem sgC_0 : sgC 0 = 0 := rfl
theorem dec_E {x : Nat} (h : Okx 1 253 x) : FP.Core.decode FP.Core.b32 x = .fin false (sgC x) (((if x = 0 then 1 else sgE x : Nat) : Int) - 150) := by
  rw [(dec_ok h).1]
  congr 1
  by_cases z : x = 0
  · rw [if_pos z, if_pos z]; rfl
  · rw [if_neg z, if_neg z]
/-- what a sum's leading digit is -/
theorem sum_lg {c1 c2 a : Nat} (h1 : 8388608 ≤ c1) (h2 : c1 < 16777216) (h3 : c2 < 16777216) : 0 < c1 * 2 ^ a + c2 ∧ 23 + a ≤ (c1 * 2 ^ a + c2).log2 ∧ (c1 * 2 ^ a + c2).log2 ≤ 24 + a := by
  have p := Nat.two_pow_pos a
  have a1 := Nat.mul_le_mul_right (2 ^ a) h1
  have a2 : c1 * 2 ^ a ≤ 16777215 * 2 ^ a := Nat.mul_le_mul_right (2 ^ a) (by omega)
  have pos : 0 < c1 * 2 ^ a + c2 := by omega
  obtain ⟨l1, l2⟩ := lg_le pos
  refine ⟨pos, ?_, ?_⟩
  · have : 2 ^ (23 + a) < 2 ^ ((c1 * 2 ^ a + c2).log2 + 1) := by
      rw [Nat.pow_add 2 23 a, p2_23]; omega
    have := (Nat.pow_lt_pow_iff_right (by decide : 1 < 2)).mp this
    omega
  · have : 2 ^ (c1 * 2 ^ a + c2).log2 < 2 ^ (25 + a) := by
      rw [Nat.pow_add 2 25 a, show (2 : Nat) ^ 25 = 33554432 from by decide]; omega
    have := (Nat.pow_lt_pow_iff_right (by decide : 1 < 2)).mp this
    omega
theorem fadd_s {lo hi x y : Nat} (hx : Okx lo hi x) (hy : Okx lo hi y) (hl : 1 ≤ lo) (hh : hi ≤ 200) : FP.fadd (UInt32.ofNat x) (UInt32.ofNat y) = UInt32.ofNat (addS x y) ∧ Okx lo (hi + 2) (addS x y) := by
  have hx' := hx.mono (lo' := 1) (hi' := 253) hl (by omega)
  have hy' := hy.mono (lo' := 1) (hi' := 253) hl (by omega)
  have e : FP.fadd (UInt32.ofNat x) (UInt32.ofNat y) = UInt32.ofNat (FP.Core.encode FP.Core.b32 (FP.Core.round FP.Core.b32 (FP.Core.exactSum (FP.Core.decode FP.Core.b32 x) (FP.Core.decode FP.Core.b32 y)))) := by
    show UInt32.ofNat (FP.Core.add FP.Core.b32 _ _) = _
    rw [fu (dec_ok hx').2, fu (dec_ok hy').2]
    rfl
  rw [e, dec_E hx', dec_E hy']
  have key : ∀ u w : Nat, Okx lo hi u → Okx lo hi w → w ≤ u → (∀ d : FP.Core.Datum, d = .fin false (sgC u * 2 ^ ((if u = 0 then 1 else sgE u) - (if w = 0 then 1 else sgE w)) + sgC w) (((if w = 0 then 1 else sgE w : Nat) : Int) - 150) → UInt32.ofNat (FP.Core.encode FP.Core.b32 (FP.Core.round FP.Core.b32 d)) = UInt32.ofNat (if w = 0 then u else rn1 (sgC u * 2 ^ (sgE u - sgE w) + sgC w) (sgE w + (sgC u * 2 ^ (sgE u - sgE w) + sgC w).log2 - 23))) ∧ Okx lo (hi + 2) (if w = 0 then u else rn1 (sgC u * 2 ^ (sgE u - sgE w) + sgC w) (sgE w + (sgC u * 2 ^ (sgE u - sgE w) + sgC w).log2 - 23)) := by
    intro u w hu hw huw
    by_cases w0 : w = 0
    · simp only [if_pos w0]
      refine ⟨fun d hd => ?_, hu.mono (Nat.le_refl _) (by omega)⟩
      rw [hd, w0, sgC_0, Nat.add_zero]
      by_cases u0 : u = 0
      · rw [u0, sgC_0, Nat.zero_mul]
        exact congrArg UInt32.ofNat enc_0
      · obtain ⟨⟨b1, b2, b3, b4, b5⟩, b6, b7⟩ := hu.sg u0 hl (by omega)
        rw [if_neg u0]
        obtain ⟨g1, g2⟩ := rn1_exact (k := sgE u - 1) (E := sgE u) b2 b3
        congr 1
        show FP.Core.encode _ (FP.Core.roundRatio _ false _ 1 _) = _
        rw [enc_1 (E := sgE u) (Nat.mul_pos (by omega) (Nat.two_pow_pos _)) (by rw [g1]; omega) b4 (by omega), g2, ← b1]
    · have u0 : u ≠ 0 := by omega
      simp only [if_neg w0, if_neg u0]
      obtain ⟨⟨b1, b2, b3, b4, b5⟩, b6, b7⟩ := hu.sg u0 hl (by omega)
      obtain ⟨⟨c1, c2, c3, c4, c5⟩, c6, c7⟩ := hw.sg w0 hl (by omega)
      have le := (sg_le (hu.mono hl (by omega)) (hw.mono hl (by omega)) w0 huw).1
      obtain ⟨s1, s2, s3⟩ := sum_lg (a := sgE u - sgE w) b2 b3 c3
      refine ⟨fun d hd => ?_, ?_⟩
      · rw [hd]
        congr 1
        exact enc_1 s1 (by omega) (by omega) (by omega)
      · have bd := rn1_bd (E := sgE w + (sgC u * 2 ^ (sgE u - sgE w) + sgC w).log2 - 23) s1
        refine Or.inr ⟨?_, ?_⟩ <;> omega
  unfold addS
  by_cases c : y ≤ x
  · rw [show max x y = x by omega, show min x y = y by omega]
    obtain ⟨k1, k2⟩ := key x y hx hy c
    have le : (if y = 0 then 1 else sgE y) ≤ (if x = 0 then 1 else sgE x) := by
      by_cases y0 : y = 0
      · rw [if_pos y0]
        split
        · exact Nat.le_refl _
        next x0 => exact (hx'.sg x0 (by decide) (by decide)).1.2.2.2.1
      · rw [if_neg y0, if_neg (by omega)]
        exact (sg_le hx' hy' y0 c).1
    exact ⟨k1 _ (core_sum le).1, k2⟩
  · rw [show max x y = y by omega, show min x y = x by omega]
    obtain ⟨k1, k2⟩ := key y x hy hx (by omega)
    have le : (if x = 0 then 1 else sgE x) ≤ (if y = 0 then 1 else sgE y) := by
      by_cases x0 : x = 0
      · rw [if_pos x0, if_neg (by omega)]
        exact (hy'.sg (by omega) (by decide) (by decide)).1.2.2.2.1
      · rw [if_neg x0, if_neg (by omega)]
        exact (sg_le hy' hx' x0 (by omega)).1
    exact ⟨k1 _ (core_sum le).2, k2⟩
theorem fsub_s {lo hi x y : Nat} (hx : Okx lo hi x) (hy : Okx lo hi y) (hl : 24 ≤ lo) (hh : hi ≤ 200) (h : y ≤ x) : FP.fsub (UInt32.ofNat x) (UInt32.ofNat y) = UInt32.ofNat (subS x y) ∧ Okx (lo - 23) (hi + 2) (subS x y) := by
  have hx' := hx.mono (lo' := 1) (hi' := 253) (by omega) (by omega)
  have hy' := hy.mono (lo' := 1) (hi' := 253) (by omega) (by omega)
  have e : FP.fsub (UInt32.ofNat x) (UInt32.ofNat y) = UInt32.ofNat (FP.Core.encode FP.Core.b32 (FP.Core.round FP.Core.b32 (FP.Core.exactSum (FP.Core.decode FP.Core.b32 x) (FP.Core.negate (FP.Core.decode FP.Core.b32 y))))) := by
    show UInt32.ofNat (FP.Core.sub FP.Core.b32 _ _) = _
    rw [fu (dec_ok hx').2, fu (dec_ok hy').2]
    rfl
  rw [e, dec_E hx', dec_E hy']
  by_cases y0 : y = 0
  · rw [show subS x y = x from if_pos y0]
    refine ⟨?_, hx.mono (by omega) (by omega)⟩
    have le : (if y = 0 then 1 else sgE y) ≤ (if x = 0 then 1 else sgE x) := by
      rw [if_pos y0]
      split
      · exact Nat.le_refl _
      next x0 => exact (hx'.sg x0 (by decide) (by decide)).1.2.2.2.1
    rw [core_dif le (by rw [y0, sgC_0]; exact Nat.zero_le _), y0, sgC_0, Nat.sub_zero, if_pos rfl]
    by_cases x0 : x = 0
    · rw [x0, sgC_0, Nat.zero_mul]
      exact congrArg UInt32.ofNat enc_0
    · obtain ⟨⟨b1, b2, b3, b4, b5⟩, b6, b7⟩ := hx.sg x0 (by omega) (by omega)
      rw [if_neg x0]
      obtain ⟨g1, g2⟩ := rn1_exact (k := sgE x - 1) (E := sgE x) b2 b3
      congr 1
      show FP.Core.encode _ (FP.Core.roundRatio _ false _ 1 _) = _
      rw [enc_1 (E := sgE x) (Nat.mul_pos (by omega) (Nat.two_pow_pos _)) (by rw [g1]; omega) b4 (by omega), g2, ← b1]
  · have x0 : x ≠ 0 := by omega
    rw [if_neg x0, if_neg y0]
    obtain ⟨⟨b1, b2, b3, b4, b5⟩, b6, b7⟩ := hx.sg x0 (by omega) (by omega)
    obtain ⟨⟨c1, c2, c3, c4, c5⟩, c6, c7⟩ := hy.sg y0 (by omega) (by omega)
    obtain ⟨le, lv⟩ := sg_le hx' hy' y0 h
    rw [core_dif le lv]
    by_cases v0 : sgC x * 2 ^ (sgE x - sgE y) - sgC y = 0
    · rw [show subS x y = 0 by unfold subS; rw [if_neg y0, if_pos v0], v0]
      refine ⟨?_, Or.inl rfl⟩
      exact congrArg UInt32.ofNat enc_0
    · rw [show subS x y = rn1 (sgC x * 2 ^ (sgE x - sgE y) - sgC y) (sgE y + (sgC x * 2 ^ (sgE x - sgE y) - sgC y).log2 - 23) by unfold subS; rw [if_neg y0, if_neg v0]]
      have vp : 0 < sgC x * 2 ^ (sgE x - sgE y) - sgC y := by omega
      have up : (sgC x * 2 ^ (sgE x - sgE y) - sgC y).log2 ≤ 23 + (sgE x - sgE y) := by
        obtain ⟨l1, l2⟩ := lg_le vp
        have a2 := Nat.mul_lt_mul_of_pos_right b3 (Nat.two_pow_pos (sgE x - sgE y))
        have : 2 ^ (sgC x * 2 ^ (sgE x - sgE y) - sgC y).log2 < 2 ^ (24 + (sgE x - sgE y)) := by
          rw [Nat.pow_add 2 24, p2_24]; omega
        have := (Nat.pow_lt_pow_iff_right (by decide : 1 < 2)).mp this
        omega
      refine ⟨?_, ?_⟩
      · congr 1
        exact enc_1 vp (by omega) (by omega) (by omega)
      · have bd := rn1_bd (E := sgE y + (sgC x * 2 ^ (sgE x - sgE y) - sgC y).log2 - 23) vp
        refine Or.inr ⟨?_, ?_⟩ <;> omega
theorem mul_lg {c1 c2 : Nat} (h1 : 8388608 ≤ c1) (h1' : c1 < 16777216) (h2 : 8388608 ≤ c2) (h2' : c2 < 16777216) : 0 < c1 * c2 ∧ 46 ≤ (c1 * c2).log2 ∧ (c1 * c2).log2 ≤ 47 := by
  have a1 : 8388608 * 8388608 ≤ c1 * c2 := Nat.mul_le_mul h1 h2
  have a2 : c1 * c2 < 16777216 * 16777216 := Nat.mul_lt_mul'' h1' h2'
  have pos : 0 < c1 * c2 := by omega
  obtain ⟨l1, l2⟩ := lg_le pos
  have e46 : (2 : Nat) ^ 46 = 8388608 * 8388608 := by decide
  have e48 : (2 : Nat) ^ 48 = 16777216 * 16777216 := by decide
  refine ⟨pos, ?_, ?_⟩
  · have : 2 ^ 46 < 2 ^ ((c1 * c2).log2 + 1) := by rw [e46]; omega
    have := (Nat.pow_lt_pow_iff_right (by decide : 1 < 2)).mp this
    omega
  · have : 2 ^ (c1 * c2).log2 < 2 ^ 48 := by rw [e48]; omega
    have := (Nat.pow_lt_pow_iff_right (by decide : 1 < 2)).mp this
    omega
theorem fmul_s {x y : Nat} (hx : Okx 1 253 x) (hy : Okx 1 253 y) (h : x ≠ 0 → y ≠ 0 → 130 ≤ sgE x + sgE y ∧ sgE x + sgE y ≤ 370) : FP.fmul (UInt32.ofNat x) (UInt32.ofNat y) = UInt32.ofNat (mulS x y) ∧ (mulS x y = 0 ∨ (sgE x + sgE y - 127 ≤ mulS x y / 8388608 ∧ mulS x y / 8388608 ≤ sgE x + sgE y - 125)) := by
  have e : FP.fmul (UInt32.ofNat x) (UInt32.ofNat y) = UInt32.ofNat (FP.Core.encode FP.Core.b32 (FP.Core.round FP.Core.b32 (FP.Core.exactProduct (FP.Core.decode FP.Core.b32 x) (FP.Core.decode FP.Core.b32 y)))) := by
    show UInt32.ofNat (FP.Core.mul FP.Core.b32 _ _) = _
    rw [fu (dec_ok hx).2, fu (dec_ok hy).2]
    rfl
  rw [e, dec_E hx, dec_E hy, core_mul]
  by_cases z : x = 0 ∨ y = 0
  · rw [show mulS x y = 0 from if_pos z]
    refine ⟨?_, Or.inl rfl⟩
    rw [show sgC x * sgC y = 0 by rcases z with q | q <;> rw [q, sgC_0] <;> simp]
    exact congrArg UInt32.ofNat enc_0
  · rw [show mulS x y = rn1 (sgC x * sgC y) (sgE x + sgE y + (sgC x * sgC y).log2 - 173) from if_neg z]
    have x0 : x ≠ 0 := fun q => z (Or.inl q)
    have y0 : y ≠ 0 := fun q => z (Or.inr q)
    obtain ⟨h1, h2⟩ := h x0 y0
    obtain ⟨⟨b1, b2, b3, b4, b5⟩, b6, b7⟩ := hx.sg x0 (by decide) (by decide)
    obtain ⟨⟨c1, c2, c3, c4, c5⟩, c6, c7⟩ := hy.sg y0 (by decide) (by decide)
    obtain ⟨s1, s2, s3⟩ := mul_lg b2 b3 c2 c3
    rw [if_neg x0, if_neg y0]
    refine ⟨?_, ?_⟩
    · congr 1
      exact enc_1 s1 (by omega) (by omega) (by omega)
    · have bd := rn1_bd (E := sgE x + sgE y + (sgC x * sgC y).log2 - 173) s1
      refine Or.inr ⟨?_, ?_⟩ <;> omega
theorem fdiv_s {x y : Nat} (hx : Okx 1 253 x) (hy : Okx 1 253 y) (y0 : y ≠ 0) (h : x ≠ 0 → sgE y + 2 ≤ sgE x + 127 ∧ sgE x + 127 ≤ sgE y + 252) : FP.fdiv (UInt32.ofNat x) (UInt32.ofNat y) = UInt32.ofNat (divS x y) ∧ (divS x y = 0 ∨ (sgE x + 126 - sgE y ≤ divS x y / 8388608 ∧ divS x y / 8388608 ≤ sgE x + 128 - sgE y)) := by
  have e : FP.fdiv (UInt32.ofNat x) (UInt32.ofNat y) = UInt32.ofNat (FP.Core.encode FP.Core.b32 (FP.Core.quotient FP.Core.b32 (FP.Core.decode FP.Core.b32 x) (FP.Core.decode FP.Core.b32 y))) := by
    show UInt32.ofNat (FP.Core.div FP.Core.b32 _ _) = _
    rw [fu (dec_ok hx).2, fu (dec_ok hy).2]
    rfl
  obtain ⟨⟨c1, c2, c3, c4, c5⟩, c6, c7⟩ := hy.sg y0 (by decide) (by decide)
  rw [e, dec_E hx, dec_E hy, if_neg y0]
  by_cases x0 : x = 0
  · rw [show divS x y = 0 from if_pos x0]
    refine ⟨?_, Or.inl rfl⟩
    apply congrArg
    rw [x0, sgC_0]
    unfold FP.Core.quotient
    simp only
    rw [if_neg (by omega)]
    unfold FP.Core.roundRatio
    rw [if_pos rfl]
    decide
  · rw [if_neg x0, show divS x y = rnA (sgC x * 2 ^ (if sgC y ≤ sgC x then 23 else 24)) (sgC y) (sgE x + 127 - (if sgC y ≤ sgC x then 0 else 1) - sgE y) from if_neg x0]
    obtain ⟨h1, h2⟩ := h x0
    obtain ⟨⟨b1, b2, b3, b4, b5⟩, b6, b7⟩ := hx.sg x0 (by decide) (by decide)
    by_cases c : sgC y ≤ sgC x
    · have cd := core_div (E1 := sgE x) (E2 := sgE y) (E := sgE x + 127 - 0 - sgE y) b2 b3 c2 c3 (by rw [if_pos c]; omega) (by omega) (by omega)
      simp only [if_pos c] at cd ⊢
      refine ⟨by rw [cd], Or.inr ?_⟩
      have bd := rnA_bd (num := sgC x * 2 ^ 23) (den := sgC y) (E := sgE x + 127 - 0 - sgE y) (by omega) (by rw [p2_23]; omega) (by rw [p2_23]; omega)
      constructor <;> omega
    · have cd := core_div (E1 := sgE x) (E2 := sgE y) (E := sgE x + 127 - 1 - sgE y) b2 b3 c2 c3 (by rw [if_neg c]; omega) (by omega) (by omega)
      simp only [if_neg c] at cd ⊢
      refine ⟨by rw [cd], Or.inr ?_⟩
      have bd := rnA_bd (num := sgC x * 2 ^ 24) (den := sgC y) (E := sgE x + 127 - 1 - sgE y) (by omega) (by rw [p2_24]; omega) (by rw [p2_24]; omega)
      constructor <;> omega
theorem i2f_s {n : Nat} (hn : n < 2 ^ 20) : FP.i2f (nI n) = UInt32.ofNat (whoS n) ∧ (n ≠ 0 → whoS n / 8388608 = n.log2 + 127) ∧ Okx 127 147 (whoS n) ∧ (whoS n = 0 ↔ n = 0) := by
  have e : FP.i2f (nI n) = UInt32.ofNat (FP.Core.encode FP.Core.b32 (FP.Core.round FP.Core.b32 (FP.Core.ofInt (n : Int)))) := by
    show UInt32.ofNat (FP.Core.fromInt FP.Core.b32 (nI n).toInt) = _
    rw [nI_toInt (by omega)]
    rfl
  have e2 : FP.Core.ofInt (n : Int) = .fin false n 0 := by
    unfold FP.Core.ofInt
    rw [decide_eq_false (by omega), Int.natAbs_natCast]
  rw [e, e2]
  by_cases z : n = 0
  · rw [show whoS n = 0 from if_pos z]
    refine ⟨?_, fun q => absurd z q, Or.inl rfl, fun _ => z, fun _ => rfl⟩
    rw [z]
    exact congrArg UInt32.ofNat enc_0
  · rw [show whoS n = rn1 n (n.log2 + 127) from if_neg z]
    have np : 0 < n := by omega
    obtain ⟨l1, l2⟩ := lg_le np
    have lg : n.log2 < 20 := (Nat.pow_lt_pow_iff_right (by decide : 1 < 2)).mp (Nat.lt_of_le_of_lt l1 hn)
    have p1 : 2 ^ n.log2 * 2 ^ (23 - n.log2) = 8388608 := by rw [← Nat.pow_add, show n.log2 + (23 - n.log2) = 23 by omega, p2_23]
    have p2 : 2 ^ (n.log2 + 1) * 2 ^ (23 - n.log2) = 16777216 := by rw [← Nat.pow_add, show n.log2 + 1 + (23 - n.log2) = 24 by omega, p2_24]
    have a1 := Nat.mul_le_mul_right (2 ^ (23 - n.log2)) l1
    have a2 := Nat.mul_lt_mul_of_pos_right l2 (Nat.two_pow_pos (23 - n.log2))
    have er : rn1 n (n.log2 + 127) = (n.log2 + 127) * 8388608 + (n * 2 ^ (23 - n.log2) - 8388608) := by unfold rn1; rw [if_pos (by omega)]
    have ed : rn1 n (n.log2 + 127) / 8388608 = n.log2 + 127 := by rw [er]; omega
    refine ⟨?_, fun _ => ed, Or.inr (by omega), fun q => by omega, fun q => absurd q z⟩
    congr 1
    exact enc_1 np (by omega) (by omega) (by omega)
def cutS (x : Nat) : Nat := if x = 0 then 0 else if sgE x < 150 then sgC x / 2 ^ (150 - sgE x) else sgC x * 2 ^ (sgE x - 150)
theorem f2i_s {x : Nat} (hx : Okx 1 156 x) : FP.f2i (UInt32.ofNat x) = nI (cutS x) ∧ cutS x < 2 ^ 30 := by
  have hx' := hx.mono (lo' := 1) (hi' := 253) (by omega) (by omega)
  show Int32.ofInt (FP.Core.toInt _ _ (FP.Core.decode FP.Core.b32 (UInt32.ofNat x).toNat)) = _ ∧ _
  rw [fu (dec_ok hx').2, (dec_ok hx').1]
  unfold FP.Core.toInt FP.Core.truncate FP.Core.signed
  simp only [Bool.false_eq_true, if_false]
  have fin : ∀ n : Nat, n < 2 ^ 30 → Int32.ofInt (max (-2 ^ 31) (min (2 ^ 31 - 1) (n : Int))) = nI n := by
    intro n hn
    rw [show max (-2 ^ 31 : Int) (min (2 ^ 31 - 1) (n : Int)) = (n : Int) by omega]
    rfl
  unfold cutS
  by_cases z : x = 0
  · rw [if_pos z, if_pos z, z, sgC_0]
    exact ⟨by rw [fin _ (by simp)]; simp, by decide⟩
  · obtain ⟨⟨b1, b2, b3, b4, b5⟩, b6, b7⟩ := hx.sg z (by decide) (by decide)
    rw [if_neg z, if_neg z]
    by_cases c : sgE x < 150
    · rw [if_pos c, show ((sgE x : Int) - 150).toNat = 0 by omega, show (-((sgE x : Int) - 150)).toNat = 150 - sgE x by omega, Nat.pow_zero, Nat.mul_one]
      have : sgC x / 2 ^ (150 - sgE x) ≤ sgC x := Nat.div_le_self _ _
      exact ⟨fin _ (by omega), by omega⟩
    · rw [if_neg c, show ((sgE x : Int) - 150).toNat = sgE x - 150 by omega, show (-((sgE x : Int) - 150)).toNat = 0 by omega, Nat.pow_zero, Nat.div_one]
      have p : 2 ^ (sgE x - 150) ≤ 2 ^ 6 := Nat.pow_le_pow_right (by decide) (by omega)
      have : sgC x * 2 ^ (sgE x - 150) ≤ sgC x * 2 ^ 6 := Nat.mul_le_mul_left _ p
      exact ⟨fin _ (by omega), by omega⟩
