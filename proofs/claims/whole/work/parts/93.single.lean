/-! SINGLE numbers: what the machine's float instructions give, by bits -/
theorem fb_tails : FP.Core.Fmt.tails FP.Core.b32 = 8388608 := by decide
theorem fb_exps : FP.Core.Fmt.exps FP.Core.b32 = 256 := by decide
theorem fb_qmin : FP.Core.Fmt.qmin FP.Core.b32 = -149 := by decide
theorem fb_qmax : FP.Core.Fmt.qmax FP.Core.b32 = 104 := by decide
theorem fb_p : FP.Core.b32.p = 24 := rfl
theorem p2_23 : (2 : Nat) ^ 23 = 8388608 := by decide
theorem p2_24 : (2 : Nat) ^ 24 = 16777216 := by decide
theorem lg_eq {n k : Nat} (h1 : 2 ^ k ≤ n) (h2 : n < 2 ^ (k + 1)) : n.log2 = k := by
  have n0 : n ≠ 0 := by have := Nat.two_pow_pos k; omega
  have a := Nat.log2_self_le n0
  have b := @Nat.lt_log2_self n
  have c1 : n.log2 < k + 1 := (Nat.pow_lt_pow_iff_right (by decide : 1 < 2)).mp (Nat.lt_of_le_of_lt a h2)
  have c2 : k < n.log2 + 1 := (Nat.pow_lt_pow_iff_right (by decide : 1 < 2)).mp (Nat.lt_of_le_of_lt h1 b)
  omega
theorem lg_le {n : Nat} (h : 0 < n) : 2 ^ n.log2 ≤ n ∧ n < 2 ^ (n.log2 + 1) := ⟨Nat.log2_self_le (by omega), Nat.lt_log2_self⟩
/-- bits x stand for c times 2 to the power of E - 150 -/
def Sg (x E c : Nat) : Prop := x = E * 8388608 + (c - 8388608) ∧ 8388608 ≤ c ∧ c < 16777216 ∧ 1 ≤ E ∧ E ≤ 253
theorem Sg.lt {x E c : Nat} (h : Sg x E c) : x < 2139095040 ∧ x / 8388608 = E ∧ x % 8388608 = c - 8388608 ∧ 0 < x := by
  obtain ⟨h1, h2, h3, h4, h5⟩ := h
  refine ⟨by omega, by omega, by omega, by omega⟩
theorem Sg.of {x : Nat} (h : 8388608 ≤ x) (h2 : x < 254 * 8388608) : Sg x (x / 8388608) (x % 8388608 + 8388608) := by
  unfold Sg; omega
theorem dec_sg {x E c : Nat} (h : Sg x E c) : FP.Core.decode FP.Core.b32 x = .fin false c ((E : Int) - 150) := by
  obtain ⟨l1, l2, l3, l4⟩ := h.lt
  obtain ⟨h1, h2, h3, h4, h5⟩ := h
  unfold FP.Core.decode FP.Core.fieldE FP.Core.fieldT FP.Core.fieldS
  rw [fb_tails, fb_exps, fb_qmin, l2, l3]
  rw [if_neg (by omega), if_neg (by omega), show (E / 256 % 2 == 1) = false by rw [show E / 256 = 0 by omega]; rfl, show 8388608 + (c - 8388608) = c by omega, show E % 256 = E by omega]
  congr 1
  omega
theorem dec_0 : FP.Core.decode FP.Core.b32 0 = .fin false 0 (-149) := by decide
theorem lead_1 {v : Nat} (hv : 0 < v) : FP.Core.leading v 1 = (v.log2 : Int) := by
  unfold FP.Core.leading
  have l := (lg_le hv).1
  rw [show Nat.log2 1 = 0 from by decide]
  simp only [Int.natCast_zero, Int.sub_zero, Int.toNat_natCast, Nat.one_mul]
  rw [show (-(v.log2 : Int)).toNat = 0 by omega, Nat.pow_zero, Nat.mul_one, if_pos l]
/-- the bits of the nearest SINGLE number, its last digit standing for 2 to the power of E - 150 -/
def rnA (num den E : Nat) : Nat := E * 8388608 + (FP.Core.nearest num den - 8388608)
theorem near_ge {A B M : Nat} (hB : 0 < B) (h : M * B ≤ A) : M ≤ FP.Core.nearest A B := by
  have : M ≤ A / B := (Nat.le_div_iff_mul_le hB).mpr h
  unfold FP.Core.nearest
  split
  · exact this
  · split <;> omega
theorem near_le {A B M : Nat} (hB : 0 < B) (h : A < M * B) : FP.Core.nearest A B ≤ M := by
  have : A / B < M := (Nat.div_lt_iff_lt_mul hB).mpr h
  unfold FP.Core.nearest
  split
  · omega
  · split <;> omega
theorem near_mul {c B : Nat} (hB : 0 < B) : FP.Core.nearest (c * B) B = c := by
  unfold FP.Core.nearest
  rw [Nat.mul_mod_left, Nat.mul_div_cancel _ hB, if_pos (by omega)]
theorem near_1 {c : Nat} : FP.Core.nearest c 1 = c := by
  have := near_mul (c := c) (B := 1) (by decide)
  rwa [Nat.mul_one] at this
/-- one rounding, of whatever lies between -/
theorem enc_at {num den E : Nat} {q : Int} (hd : 0 < den) (h1 : 8388608 * den ≤ num) (h2 : num < 16777216 * den) (hE : (E : Int) = q + 150) (hE1 : 1 ≤ E) (hE2 : E ≤ 252) : FP.Core.encode FP.Core.b32 (FP.Core.settle FP.Core.b32 false (FP.Core.nearest num den) q) = rnA num den E := by
  have n1 := near_ge hd h1
  have n2 := near_le hd h2
  unfold FP.Core.settle FP.Core.bound rnA
  rw [fb_p, p2_24, fb_qmax, fb_tails]
  generalize FP.Core.nearest num den = c at n1 n2
  by_cases z : c < 16777216
  · rw [if_pos z, if_pos (by omega)]
    unfold FP.Core.encode FP.Core.assemble
    simp only [fb_tails, fb_exps, fb_qmin]
    rw [if_neg (by omega), show (q - -149).toNat + 1 = E by omega]
    simp
  · rw [if_neg z, if_pos (by omega)]
    unfold FP.Core.encode FP.Core.assemble
    simp only [fb_tails, fb_exps, fb_qmin]
    rw [if_neg (by omega), show (q + 1 - -149).toNat + 1 = E + 1 by omega]
    simp
    omega
/-- a whole number times 2 to the power of e, rounded -/
def rn1 (v E : Nat) : Nat := if v.log2 ≤ 23 then E * 8388608 + (v * 2 ^ (23 - v.log2) - 8388608) else rnA v (2 ^ (v.log2 - 23)) E
theorem enc_1 {v E : Nat} {e : Int} (hv : 0 < v) (hE : (E : Int) = e + v.log2 - 23 + 150) (hE1 : 1 ≤ E) (hE2 : E ≤ 252) : FP.Core.encode FP.Core.b32 (FP.Core.roundRatio FP.Core.b32 false v 1 e) = rn1 v E := by
  obtain ⟨l1, l2⟩ := lg_le hv
  unfold FP.Core.roundRatio FP.Core.roundAt
  rw [if_neg (by omega)]
  have hq : FP.Core.quantum FP.Core.b32 v 1 e = (E : Int) - 150 := by
    unfold FP.Core.quantum
    rw [lead_1 hv, fb_qmin, fb_p]
    omega
  rw [hq]
  unfold FP.Core.unitsNum FP.Core.unitsDen rn1
  by_cases c : v.log2 ≤ 23
  · have p : 2 ^ v.log2 * 2 ^ (23 - v.log2) = 8388608 := by rw [← Nat.pow_add, show v.log2 + (23 - v.log2) = 23 by omega, p2_23]
    have p' : 2 ^ (v.log2 + 1) * 2 ^ (23 - v.log2) = 16777216 := by rw [← Nat.pow_add, show v.log2 + 1 + (23 - v.log2) = 24 by omega, p2_24]
    have a1 := Nat.mul_le_mul_right (2 ^ (23 - v.log2)) l1
    have a2 := Nat.mul_lt_mul_of_pos_right l2 (Nat.two_pow_pos (23 - v.log2))
    rw [show (e - ((E : Int) - 150)).toNat = 23 - v.log2 by omega, show ((E : Int) - 150 - e).toNat = 0 by omega, if_pos c]
    rw [enc_at (E := E) (by decide) (by omega) (by omega) (by omega) hE1 hE2]
    unfold rnA
    rw [show 1 * 2 ^ 0 = 1 by decide, near_1]
  · have p : 2 ^ v.log2 = 8388608 * 2 ^ (v.log2 - 23) := by rw [← p2_23, ← Nat.pow_add, show 23 + (v.log2 - 23) = v.log2 by omega]
    have p' : 2 ^ (v.log2 + 1) = 16777216 * 2 ^ (v.log2 - 23) := by rw [← p2_24, ← Nat.pow_add, show 24 + (v.log2 - 23) = v.log2 + 1 by omega]
    rw [show (e - ((E : Int) - 150)).toNat = 0 by omega, show ((E : Int) - 150 - e).toNat = v.log2 - 23 by omega, if_neg c, Nat.pow_zero, Nat.mul_one, Nat.one_mul]
    exact enc_at (Nat.two_pow_pos _) (by omega) (by omega) (by omega) hE1 hE2
theorem enc_0 {e : Int} : FP.Core.encode FP.Core.b32 (FP.Core.roundRatio FP.Core.b32 false 0 1 e) = 0 := by
  unfold FP.Core.roundRatio
  rw [if_pos rfl]
  decide
theorem u32_of {n : Nat} (h : n < 2 ^ 32) : (UInt32.ofNat n).toNat = n := by
  rw [UInt32.toNat_ofNat']
  exact Nat.mod_eq_of_lt h
/-- the sum; the greater exponent stands first -/
theorem core_sum {c1 c2 E1 E2 : Nat} (h : E2 ≤ E1) : FP.Core.exactSum (.fin false c1 ((E1 : Int) - 150)) (.fin false c2 ((E2 : Int) - 150)) = .fin false (c1 * 2 ^ (E1 - E2) + c2) ((E2 : Int) - 150) ∧ FP.Core.exactSum (.fin false c2 ((E2 : Int) - 150)) (.fin false c1 ((E1 : Int) - 150)) = .fin false (c1 * 2 ^ (E1 - E2) + c2) ((E2 : Int) - 150) := by
  have m1 : min ((E1 : Int) - 150) ((E2 : Int) - 150) = (E2 : Int) - 150 := by omega
  have m2 : min ((E2 : Int) - 150) ((E1 : Int) - 150) = (E2 : Int) - 150 := by omega
  have t1 : ((E1 : Int) - 150 - ((E2 : Int) - 150)).toNat = E1 - E2 := by omega
  have t2 : ((E2 : Int) - 150 - ((E2 : Int) - 150)).toNat = 0 := by omega
  have nn : ¬ ((((c1 * 2 ^ (E1 - E2) : Nat) : Int) + ((c2 : Nat) : Int)) < 0) := by omega
  have nn2 : ¬ (((c2 : Nat) : Int) + (((c1 * 2 ^ (E1 - E2) : Nat) : Int)) < 0) := by omega
  constructor
  · unfold FP.Core.exactSum FP.Core.sumUnits FP.Core.inUnits FP.Core.signed FP.Core.sumSign
    simp only [Bool.false_eq_true, if_false]
    rw [m1, t1, t2, Nat.pow_zero, Nat.mul_one]
    congr 1
    · split
      · rfl
      · exact decide_eq_false nn
  · unfold FP.Core.exactSum FP.Core.sumUnits FP.Core.inUnits FP.Core.signed FP.Core.sumSign
    simp only [Bool.false_eq_true, if_false]
    rw [m2, t1, t2, Nat.pow_zero, Nat.mul_one]
    congr 1
    · split
      · rfl
      · exact decide_eq_false nn2
    · omega
/-- the difference of the one that is no less and the other one -/
theorem core_dif {c1 c2 E1 E2 : Nat} (h : E2 ≤ E1) (hc : c2 ≤ c1 * 2 ^ (E1 - E2)) : FP.Core.exactSum (.fin false c1 ((E1 : Int) - 150)) (FP.Core.negate (.fin false c2 ((E2 : Int) - 150))) = .fin false (c1 * 2 ^ (E1 - E2) - c2) ((E2 : Int) - 150) := by
  have m1 : min ((E1 : Int) - 150) ((E2 : Int) - 150) = (E2 : Int) - 150 := by omega
  have t1 : ((E1 : Int) - 150 - ((E2 : Int) - 150)).toNat = E1 - E2 := by omega
  have t2 : ((E2 : Int) - 150 - ((E2 : Int) - 150)).toNat = 0 := by omega
  unfold FP.Core.negate FP.Core.exactSum FP.Core.sumUnits FP.Core.inUnits FP.Core.signed FP.Core.sumSign
  simp only [Bool.not_false, Bool.false_eq_true, if_false, if_true]
  rw [m1, t1, t2, Nat.pow_zero, Nat.mul_one]
  congr 1
  · split
    · rfl
    · exact decide_eq_false (by omega)
  · omega
theorem core_mul {c1 c2 : Nat} {q1 q2 : Int} : FP.Core.exactProduct (.fin false c1 q1) (.fin false c2 q2) = .fin false (c1 * c2) (q1 + q2) := rfl
/-- the quotient -/
theorem core_div {c1 c2 E1 E2 E : Nat} (h1 : 8388608 ≤ c1) (h1' : c1 < 16777216) (h2 : 8388608 ≤ c2) (h2' : c2 < 16777216) (hE : (E : Int) = (E1 : Int) - E2 + 127 - (if c2 ≤ c1 then 0 else 1)) (hE1 : 1 ≤ E) (hE2 : E ≤ 252) : FP.Core.encode FP.Core.b32 (FP.Core.quotient FP.Core.b32 (.fin false c1 ((E1 : Int) - 150)) (.fin false c2 ((E2 : Int) - 150))) = rnA (c1 * 2 ^ (if c2 ≤ c1 then 23 else 24)) c2 E := by
  unfold FP.Core.quotient
  simp only
  rw [if_neg (by omega)]
  unfold FP.Core.roundRatio FP.Core.roundAt
  rw [if_neg (by omega)]
  have l1 : c1.log2 = 23 := lg_eq (by rw [p2_23]; exact h1) (by rw [p2_24]; exact h1')
  have l2 : c2.log2 = 23 := lg_eq (by rw [p2_23]; exact h2) (by rw [p2_24]; exact h2')
  have hl : FP.Core.leading c1 c2 = if c2 ≤ c1 then 0 else -1 := by
    unfold FP.Core.leading
    rw [l1, l2]
    simp only [Int.sub_self, Int.toNat_zero, Int.neg_zero, Nat.pow_zero, Nat.mul_one]
    rfl
  have hq : FP.Core.quantum FP.Core.b32 c1 c2 ((E1 : Int) - 150 - ((E2 : Int) - 150)) = (E : Int) - 150 := by
    unfold FP.Core.quantum
    rw [hl, fb_qmin, fb_p]
    split at hE <;> (rename_i z; simp only [z, if_true, if_false]; omega)
  rw [hq, show (false != false) = false from rfl]
  unfold FP.Core.unitsNum FP.Core.unitsDen
  by_cases c : c2 ≤ c1
  · rw [if_pos c] at hE ⊢
    rw [show ((E1 : Int) - 150 - ((E2 : Int) - 150) - ((E : Int) - 150)).toNat = 23 by omega, show ((E : Int) - 150 - ((E1 : Int) - 150 - ((E2 : Int) - 150))).toNat = 0 by omega, Nat.pow_zero, Nat.mul_one]
    exact enc_at (by omega) (by rw [p2_23]; omega) (by rw [p2_23]; omega) (by omega) hE1 hE2
  · rw [if_neg c] at hE ⊢
    rw [show ((E1 : Int) - 150 - ((E2 : Int) - 150) - ((E : Int) - 150)).toNat = 24 by omega, show ((E : Int) - 150 - ((E1 : Int) - 150 - ((E2 : Int) - 150))).toNat = 0 by omega, Nat.pow_zero, Nat.mul_one]
    exact enc_at (by omega) (by rw [p2_24]; omega) (by rw [p2_24]; omega) (by omega) hE1 hE2
