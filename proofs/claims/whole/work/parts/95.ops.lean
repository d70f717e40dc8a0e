/-! SINGLE numbers by bits: one set of operations for both sides -/
def sgE (x : Nat) : Nat := x / 8388608
def sgC (x : Nat) : Nat := if x = 0 then 0 else x % 8388608 + 8388608
def addS (x y : Nat) : Nat :=
  if min x y = 0 then max x y
  else rn1 (sgC (max x y) * 2 ^ (sgE (max x y) - sgE (min x y)) + sgC (min x y)) (sgE (min x y) + (sgC (max x y) * 2 ^ (sgE (max x y) - sgE (min x y)) + sgC (min x y)).log2 - 23)
def subS (x y : Nat) : Nat :=
  if y = 0 then x
  else if sgC x * 2 ^ (sgE x - sgE y) - sgC y = 0 then 0
  else rn1 (sgC x * 2 ^ (sgE x - sgE y) - sgC y) (sgE y + (sgC x * 2 ^ (sgE x - sgE y) - sgC y).log2 - 23)
def mulS (x y : Nat) : Nat := if x = 0 ∨ y = 0 then 0 else rn1 (sgC x * sgC y) (sgE x + sgE y + (sgC x * sgC y).log2 - 173)
def divS (x y : Nat) : Nat := if x = 0 then 0 else rnA (sgC x * 2 ^ (if sgC y ≤ sgC x then 23 else 24)) (sgC y) (sgE x + 127 - (if sgC y ≤ sgC x then 0 else 1) - sgE y)
def whoS (n : Nat) : Nat := if n = 0 then 0 else rn1 n (n.log2 + 127)
/-- 0, or its exponent between these -/
def Okx (lo hi x : Nat) : Prop := x = 0 ∨ (lo ≤ x / 8388608 ∧ x / 8388608 ≤ hi)
theorem Okx.mono {lo hi lo' hi' x : Nat} (h : Okx lo hi x) (h1 : lo' ≤ lo) (h2 : hi ≤ hi') : Okx lo' hi' x := by
  rcases h with q | ⟨q1, q2⟩
  · exact Or.inl q
  · exact Or.inr ⟨by omega, by omega⟩
theorem Okx.sg {lo hi x : Nat} (h : Okx lo hi x) (h0 : x ≠ 0) (hl : 1 ≤ lo) (hh : hi ≤ 253) : Sg x (sgE x) (sgC x) ∧ lo ≤ sgE x ∧ sgE x ≤ hi := by
  rcases h with q | ⟨q1, q2⟩
  · exact absurd q h0
  · have := Sg.of (x := x) (by omega) (by omega)
    unfold sgE sgC
    rw [if_neg h0]
    exact ⟨this, by omega, by omega⟩
theorem rnA_bd {num den E : Nat} (hd : 0 < den) (h1 : 8388608 * den ≤ num) (h2 : num < 16777216 * den) : E * 8388608 ≤ rnA num den E ∧ rnA num den E ≤ (E + 1) * 8388608 := by
  have n1 := near_ge hd h1
  have n2 := near_le hd h2
  unfold rnA
  omega
theorem rn1_bd {v E : Nat} (hv : 0 < v) : E * 8388608 ≤ rn1 v E ∧ rn1 v E ≤ (E + 1) * 8388608 := by
  obtain ⟨l1, l2⟩ := lg_le hv
  unfold rn1
  by_cases c : v.log2 ≤ 23
  · rw [if_pos c]
    have p1 : 2 ^ v.log2 * 2 ^ (23 - v.log2) = 8388608 := by rw [← Nat.pow_add, show v.log2 + (23 - v.log2) = 23 by omega, p2_23]
    have p2 : 2 ^ (v.log2 + 1) * 2 ^ (23 - v.log2) = 16777216 := by rw [← Nat.pow_add, show v.log2 + 1 + (23 - v.log2) = 24 by omega, p2_24]
    have a1 := Nat.mul_le_mul_right (2 ^ (23 - v.log2)) l1
    have a2 := Nat.mul_lt_mul_of_pos_right l2 (Nat.two_pow_pos (23 - v.log2))
    omega
  · rw [if_neg c]
    have p1 : 2 ^ v.log2 = 8388608 * 2 ^ (v.log2 - 23) := by rw [← p2_23, ← Nat.pow_add, show 23 + (v.log2 - 23) = v.log2 by omega]
    have p2 : 2 ^ (v.log2 + 1) = 16777216 * 2 ^ (v.log2 - 23) := by rw [← p2_24, ← Nat.pow_add, show 24 + (v.log2 - 23) = v.log2 + 1 by omega]
    exact rnA_bd (Nat.two_pow_pos _) (by omega) (by omega)
/-- as the reference rounds -/
theorem near_up {v cut : Nat} (hc : 0 < cut) : FP.Core.nearest v (2 ^ cut) = v / 2 ^ cut + (if upB v cut false = true then 1 else 0) := by
  have half : 2 ^ cut = 2 * 2 ^ (cut - 1) := by rw [Nat.mul_comm, ← Nat.pow_succ]; congr 1; omega
  unfold FP.Core.nearest upB
  by_cases c1 : 2 ^ (cut - 1) < v % 2 ^ cut
  · rw [if_neg (by omega), if_pos (by omega), decide_eq_true c1]; rfl
  · rw [decide_eq_false c1]
    by_cases c2 : v % 2 ^ cut = 2 ^ (cut - 1)
    · rw [if_neg (by omega), if_neg (by omega), decide_eq_true c2]
      have := Nat.mod_two_eq_zero_or_one (v / 2 ^ cut)
      rcases this with q | q
      · rw [q]; simp
      · rw [q]; simp
    · rw [if_pos (by omega), decide_eq_false c2]; rfl
theorem rn1_V {v E : Nat} (hv : 0 < v) : rn1 v E = rnV v E false := by
  obtain ⟨l1, l2⟩ := lg_le hv
  unfold rn1 rnV
  by_cases c : v.log2 ≤ 23
  · rw [if_pos c, if_pos c]
  · rw [if_neg c, if_neg c]
    unfold rnA
    rw [near_up (by omega)]
    have p1 : 2 ^ v.log2 = 8388608 * 2 ^ (v.log2 - 23) := by rw [← p2_23, ← Nat.pow_add, show 23 + (v.log2 - 23) = v.log2 by omega]
    have b1 : 8388608 ≤ v / 2 ^ (v.log2 - 23) := (Nat.le_div_iff_mul_le (Nat.two_pow_pos _)).mpr (by omega)
    omega
theorem near_scale (A B k : Nat) (hk : 0 < k) : FP.Core.nearest (A * k) (B * k) = FP.Core.nearest A B := by
  unfold FP.Core.nearest
  rw [Nat.mul_div_mul_right _ _ hk, Nat.mul_mod_mul_right]
  have h1 : 2 * (A % B * k) < B * k ↔ 2 * (A % B) < B := by
    rw [← Nat.mul_assoc]; exact Nat.mul_lt_mul_right hk
  have h2 : B * k < 2 * (A % B * k) ↔ B < 2 * (A % B) := by
    rw [← Nat.mul_assoc]; exact Nat.mul_lt_mul_right hk
  simp only [h1, h2]
theorem near_div {N D cut : Nat} (hD : 0 < D) (hc : 0 < cut) : FP.Core.nearest N (D * 2 ^ cut) = N / D / 2 ^ cut + (if upB (N / D) cut (decide (N % D ≠ 0)) = true then 1 else 0) := by
  have half : 2 ^ cut = 2 * 2 ^ (cut - 1) := by rw [Nat.mul_comm, ← Nat.pow_succ]; congr 1; omega
  have e1 : N = D * (N / D) + N % D := (Nat.div_add_mod N D).symm
  have e2 : N / D = 2 ^ cut * (N / D / 2 ^ cut) + N / D % 2 ^ cut := (Nat.div_add_mod _ _).symm
  have r1 := Nat.mod_lt N hD
  have r2 := Nat.mod_lt (N / D) (Nat.two_pow_pos cut)
  have q1 : N / (D * 2 ^ cut) = N / D / 2 ^ cut := (Nat.div_div_eq_div_mul N D (2 ^ cut)).symm
  have q2 : N % (D * 2 ^ cut) = D * (N / D % 2 ^ cut) + N % D := by
    have a := Nat.div_add_mod N (D * 2 ^ cut)
    rw [q1] at a
    have b : D * 2 ^ cut * (N / D / 2 ^ cut) + D * (N / D % 2 ^ cut) = D * (N / D) := by
      rw [Nat.mul_assoc, ← Nat.mul_add, ← e2]
    omega
  unfold FP.Core.nearest upB
  rw [q1, q2]
  generalize N / D / 2 ^ cut = k
  generalize N / D % 2 ^ cut = s at *
  generalize N % D = r at *
  generalize 2 ^ (cut - 1) = H at *
  rw [half]
  have eD : D * (2 * H) = 2 * (D * H) := by rw [Nat.mul_left_comm]
  rw [eD]
  by_cases c1 : H < s
  · have : D * (H + 1) ≤ D * s := Nat.mul_le_mul_left D c1
    rw [Nat.mul_add, Nat.mul_one] at this
    rw [if_neg (by omega), if_pos (by omega), decide_eq_true c1]; rfl
  · rw [decide_eq_false c1]
    by_cases c2 : s = H
    · subst c2
      rw [decide_eq_true rfl]
      by_cases c3 : r = 0
      · rw [if_neg (by omega), if_neg (by omega), decide_eq_false (by omega)]
        have := Nat.mod_two_eq_zero_or_one k
        rcases this with q | q
        · rw [q]; simp
        · rw [q]; simp
      · rw [if_neg (by omega), if_pos (by omega), decide_eq_true c3]; rfl
    · have : D * (s + 1) ≤ D * H := Nat.mul_le_mul_left D (by omega)
      rw [Nat.mul_add, Nat.mul_one] at this
      rw [if_pos (by omega), decide_eq_false c2]; rfl
theorem p2_38 : (2 : Nat) ^ 38 = 274877906944 := by decide
/-- the quotient, as the reference rounds it -/
theorem rnA_V {c1 c2 E : Nat} (h1 : 8388608 ≤ c1) (h1' : c1 < 16777216) (h2 : 8388608 ≤ c2) (h2' : c2 < 16777216) : rnA (c1 * 2 ^ (if c2 ≤ c1 then 23 else 24)) c2 E = rnV (c1 * 2 ^ 38 / c2) E (decide (c1 * 2 ^ 38 % c2 ≠ 0)) ∧ (c1 * 2 ^ 38 / c2).log2 = (if c2 ≤ c1 then 38 else 37) ∧ 0 < c1 * 2 ^ 38 / c2 ∧ c1 * 2 ^ 38 / c2 < 2 ^ 39 := by
  have p37 : (2 : Nat) ^ 37 = 137438953472 := by decide
  have p39 : (2 : Nat) ^ 39 = 549755813888 := by decide
  by_cases c : c2 ≤ c1
  · simp only [if_pos c]
    have b1 : 2 ^ 38 ≤ c1 * 2 ^ 38 / c2 := (Nat.le_div_iff_mul_le (by omega)).mpr (by rw [Nat.mul_comm]; exact Nat.mul_le_mul_right _ c)
    have b2 : c1 * 2 ^ 38 / c2 < 2 ^ 39 := (Nat.div_lt_iff_lt_mul (by omega)).mpr (by rw [p2_38, p39]; omega)
    have lg := lg_eq b1 b2
    refine ⟨?_, lg, Nat.lt_of_lt_of_le (Nat.two_pow_pos 38) b1, b2⟩
    unfold rnV rnA
    rw [lg, if_neg (by decide)]
    have e := near_scale (c1 * 2 ^ 23) c2 (2 ^ 15) (by decide)
    rw [Nat.mul_assoc, ← Nat.pow_add, show 23 + 15 = 38 from rfl] at e
    rw [← e, near_div (by omega) (by decide), show 38 - 23 = 15 from rfl]
    have b3 : 8388608 ≤ c1 * 2 ^ 38 / c2 / 2 ^ 15 := (Nat.le_div_iff_mul_le (by decide)).mpr (by rw [p2_38] at b1 ⊢; rw [show (2 : Nat) ^ 15 = 32768 from by decide]; omega)
    omega
  · simp only [if_neg c]
    have b1 : 2 ^ 37 ≤ c1 * 2 ^ 38 / c2 := (Nat.le_div_iff_mul_le (by omega)).mpr (by rw [p2_38, p37]; omega)
    have b2 : c1 * 2 ^ 38 / c2 < 2 ^ 38 := (Nat.div_lt_iff_lt_mul (by omega)).mpr (by rw [Nat.mul_comm]; exact Nat.mul_lt_mul_of_pos_left (by omega) (by decide))
    have lg := lg_eq b1 b2
    refine ⟨?_, lg, Nat.lt_of_lt_of_le (Nat.two_pow_pos 37) b1, Nat.lt_trans b2 (by decide)⟩
    unfold rnV rnA
    rw [lg, if_neg (by decide)]
    have e := near_scale (c1 * 2 ^ 24) c2 (2 ^ 14) (by decide)
    rw [Nat.mul_assoc, ← Nat.pow_add, show 24 + 14 = 38 from rfl] at e
    rw [← e, near_div (by omega) (by decide), show 37 - 23 = 14 from rfl]
    have b3 : 8388608 ≤ c1 * 2 ^ 38 / c2 / 2 ^ 14 := (Nat.le_div_iff_mul_le (by decide)).mpr (by rw [p37] at b1; rw [p2_38] at b1 ⊢; rw [show (2 : Nat) ^ 14 = 16384 from by decide]; omega)
    omega
/-! what the machine's instructions give -/
theorem fu {x : Nat} (h : x < 2139095040) : (UInt32.ofNat x).toNat = x := u32_of (by omega)
theorem num_ok {x : Nat} (h : x < 2139095040) : vf_n32 (UInt32.ofNat x) := by
  unfold vf_n32
  rw [UInt32.le_iff_toNat_le, UInt32.toNat_and, fu h]
  exact Nat.le_trans Nat.and_le_left (by show x ≤ 2139095040; omega)
theorem dec_ok {x : Nat} (h : Okx 1 253 x) : FP.Core.decode FP.Core.b32 x = .fin false (sgC x) (if x = 0 then -149 else (sgE x : Int) - 150) ∧ x < 2139095040 := by
  by_cases z : x = 0
  · subst z
    exact ⟨dec_0, by decide⟩
  · obtain ⟨s, -, -⟩ := h.sg z (by decide) (by decide)
    rw [if_neg z]
    exact ⟨dec_sg s, s.lt.1⟩
theorem sg_le {x y : Nat} (hx : Okx 1 253 x) (hy : Okx 1 253 y) (h0 : y ≠ 0) (h : y ≤ x) : sgE y ≤ sgE x ∧ sgC y ≤ sgC x * 2 ^ (sgE x - sgE y) := by
  have x0 : x ≠ 0 := by omega
  obtain ⟨⟨a1, a2, a3, a4, a5⟩, -, -⟩ := hx.sg x0 (by decide) (by decide)
  obtain ⟨⟨b1, b2, b3, b4, b5⟩, -, -⟩ := hy.sg h0 (by decide) (by decide)
  have e1 : sgE y ≤ sgE x := by unfold sgE; exact Nat.div_le_div_right h
  refine ⟨e1, ?_⟩
  by_cases c : sgE y = sgE x
  · rw [c, Nat.sub_self, Nat.pow_zero, Nat.mul_one]
    rw [c] at b1
    omega
  · have : 2 ^ 1 ≤ 2 ^ (sgE x - sgE y) := Nat.pow_le_pow_right (by decide) (by omega)
    have := Nat.mul_le_mul_left (sgC x) this
    omega
def sgQ (x : Nat) : Int := if x = 0 then -149 else (sgE x : Int) - 150
theorem sg_lt {x y : Nat} (hx : Okx 1 253 x) (hy : Okx 1 253 y) (h : x < y) : sgC x * 2 ^ (sgQ x - min (sgQ x) (sgQ y)).toNat < sgC y * 2 ^ (sgQ y - min (sgQ x) (sgQ y)).toNat := by
  have y0 : y ≠ 0 := by omega
  obtain ⟨⟨b1, b2, b3, b4, b5⟩, -, -⟩ := hy.sg y0 (by decide) (by decide)
  by_cases x0 : x = 0
  · rw [show sgC x = 0 by unfold sgC; rw [if_pos x0], Nat.zero_mul]
    exact Nat.mul_pos (by omega) (Nat.two_pow_pos _)
  · obtain ⟨⟨a1, a2, a3, a4, a5⟩, -, -⟩ := hx.sg x0 (by decide) (by decide)
    have e1 : sgE x ≤ sgE y := by unfold sgE; exact Nat.div_le_div_right (Nat.le_of_lt h)
    have q1 : sgQ x = (sgE x : Int) - 150 := if_neg x0
    have q2 : sgQ y = (sgE y : Int) - 150 := if_neg y0
    rw [q1, q2, show min ((sgE x : Int) - 150) ((sgE y : Int) - 150) = (sgE x : Int) - 150 by omega, show ((sgE x : Int) - 150 - ((sgE x : Int) - 150)).toNat = 0 by omega, show ((sgE y : Int) - 150 - ((sgE x : Int) - 150)).toNat = sgE y - sgE x by omega, Nat.pow_zero, Nat.mul_one]
    by_cases c : sgE x = sgE y
    · rw [c, Nat.sub_self, Nat.pow_zero, Nat.mul_one]
      rw [c] at a1
      omega
    · have : 2 ^ 1 ≤ 2 ^ (sgE y - sgE x) := Nat.pow_le_pow_right (by decide) (by omega)
      have := Nat.mul_le_mul_left (sgC y) this
      omega
theorem cmpI (a b : Nat) : (a < b → compare ((a : Nat) : Int) ((b : Nat) : Int) = .lt) ∧ (b < a → compare ((a : Nat) : Int) ((b : Nat) : Int) = .gt) ∧ (a = b → compare ((a : Nat) : Int) ((b : Nat) : Int) = .eq) := by
  have e : compare ((a : Nat) : Int) ((b : Nat) : Int) = if (a : Int) < (b : Int) then .lt else if (a : Int) = (b : Int) then .eq else .gt := rfl
  rw [e]
  refine ⟨fun h => ?_, fun h => ?_, fun h => ?_⟩
  · rw [if_pos (by omega)]
  · rw [if_neg (by omega), if_neg (by omega)]
  · rw [if_neg (by omega), if_pos (by omega)]
theorem fcmp_s {x y : Nat} (hx : Okx 1 253 x) (hy : Okx 1 253 y) : (FP.fcmp (UInt32.ofNat x) (UInt32.ofNat y) = some .lt ↔ x < y) ∧ (FP.fcmp (UInt32.ofNat x) (UInt32.ofNat y) = some .eq ↔ x = y) ∧ (FP.fcmp (UInt32.ofNat x) (UInt32.ofNat y) = some .gt ↔ y < x) := by
  have e : FP.fcmp (UInt32.ofNat x) (UInt32.ofNat y) = some (compare ((sgC x * 2 ^ (sgQ x - min (sgQ x) (sgQ y)).toNat : Nat) : Int) ((sgC y * 2 ^ (sgQ y - min (sgQ x) (sgQ y)).toNat : Nat) : Int)) := by
    show FP.Core.order _ _ = _
    obtain ⟨d1, l1⟩ := dec_ok hx
    obtain ⟨d2, l2⟩ := dec_ok hy
    rw [fu l1, fu l2, d1, d2]
    rfl
  obtain ⟨k1, k2, k3⟩ := cmpI (sgC x * 2 ^ (sgQ x - min (sgQ x) (sgQ y)).toNat) (sgC y * 2 ^ (sgQ y - min (sgQ x) (sgQ y)).toNat)
  rw [e]
  rcases Nat.lt_trichotomy x y with c | c | c
  · rw [k1 (sg_lt hx hy c)]
    exact ⟨⟨fun _ => c, fun _ => rfl⟩, ⟨fun q => by (cases q), fun q => by omega⟩, ⟨fun q => by (cases q), fun q => by omega⟩⟩
  · subst c
    rw [k3 rfl]
    exact ⟨⟨fun q => by (cases q), fun q => by omega⟩, ⟨fun _ => rfl, fun _ => rfl⟩, ⟨fun q => by (cases q), fun q => by omega⟩⟩
  · have := sg_lt hy hx c
    rw [show min (sgQ y) (sgQ x) = min (sgQ x) (sgQ y) by omega] at this
    rw [k2 this]
    exact ⟨⟨fun q => by (cases q), fun q => by omega⟩, ⟨fun q => by (cases q), fun q => by omega⟩, ⟨fun _ => c, fun _ => rfl⟩⟩
