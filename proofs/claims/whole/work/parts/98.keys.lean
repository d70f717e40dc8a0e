/-! KEYS on both sides; BITS of a float -/
def oneS : Nat := 1065353216
def halfS : Nat := 1056964608
def tenS : Nat := 1036831949
def twoS : Nat := 1073741824
def quoS (n1 n2 : Nat) : Nat := divS (whoS n1) (whoS n2)
def keyS (k n1 n2 : Nat) : Nat :=
  if k = 1 then mulS (quoS n1 n2) halfS
  else if k = 2 then addS (quoS n1 n2) tenS
  else if k = 3 then divS oneS (addS (quoS n1 n2) oneS)
  else quoS n1 n2
theorem ok_one : Okx 127 127 oneS ∧ oneS ≠ 0 ∧ sgE oneS = 127 ∧ sgC oneS = 8388608 := by unfold Okx; decide
theorem ok_half : Okx 126 126 halfS ∧ halfS ≠ 0 ∧ sgE halfS = 126 ∧ sgC halfS = 8388608 := by unfold Okx; decide
theorem ok_ten : Okx 123 123 tenS ∧ tenS ≠ 0 := by unfold Okx; decide
theorem ok_two : Okx 128 128 twoS ∧ twoS ≠ 0 ∧ sgE twoS = 128 ∧ sgC twoS = 8388608 := by unfold Okx; decide
theorem addS_pos {lo hi x y : Nat} (hx : Okx lo hi x) (hy : Okx lo hi y) (hl : 1 ≤ lo) (hh : hi ≤ 200) (h : y ≠ 0) : addS x y ≠ 0 := by
  unfold addS
  split
  next z => omega
  next z =>
    have hm : Okx lo hi (max x y) ∧ Okx lo hi (min x y) := by
      by_cases c : y ≤ x
      · rw [show max x y = x by omega, show min x y = y by omega]; exact ⟨hx, hy⟩
      · rw [show max x y = y by omega, show min x y = x by omega]; exact ⟨hy, hx⟩
    obtain ⟨⟨b1, b2, b3, b4, b5⟩, b6, b7⟩ := hm.1.sg (by omega) hl (by omega)
    obtain ⟨⟨c1, c2, c3, c4, c5⟩, c6, c7⟩ := hm.2.sg z hl (by omega)
    obtain ⟨s1, s2, s3⟩ := sum_lg (a := sgE (max x y) - sgE (min x y)) b2 b3 c3
    have := (rn1_bd (E := sgE (min x y) + (sgC (max x y) * 2 ^ (sgE (max x y) - sgE (min x y)) + sgC (min x y)).log2 - 23) s1).1
    omega
theorem who_ok {n : Nat} (h : n < 1024) : Okx 127 136 (whoS n) ∧ (whoS n = 0 ↔ n = 0) := by
  obtain ⟨-, h2, -, h4⟩ := i2f_s (n := n) (by omega)
  refine ⟨?_, h4⟩
  by_cases z : n = 0
  · exact Or.inl (h4.mpr z)
  · have l1 := (lg_le (show 0 < n by omega)).1
    have : n.log2 < 10 := (Nat.pow_lt_pow_iff_right (by decide : 1 < 2)).mp (Nat.lt_of_le_of_lt l1 (by rw [show (2 : Nat) ^ 10 = 1024 from by decide]; exact h))
    have := h2 z
    exact Or.inr ⟨by omega, by omega⟩
theorem who_ok2 {n : Nat} (h : n < 128) (h0 : n ≠ 0) : Okx 127 133 (whoS n) ∧ whoS n ≠ 0 := by
  obtain ⟨-, h2, -, h4⟩ := i2f_s (n := n) (by omega)
  refine ⟨?_, fun q => h0 (h4.mp q)⟩
  have l1 := (lg_le (show 0 < n by omega)).1
  have : n.log2 < 7 := (Nat.pow_lt_pow_iff_right (by decide : 1 < 2)).mp (Nat.lt_of_le_of_lt l1 (by rw [show (2 : Nat) ^ 7 = 128 from by decide]; exact h))
  have := h2 h0
  exact Or.inr ⟨by omega, by omega⟩
theorem quo_ok {n1 n2 : Nat} (h1 : n1 < 1024) (h2 : n2 < 128) (h0 : n2 ≠ 0) : FP.fdiv (FP.i2f (nI n1)) (FP.i2f (nI n2)) = UInt32.ofNat (quoS n1 n2) ∧ Okx 120 137 (quoS n1 n2) ∧ (whoS n1 ≠ 0 → sgE (whoS n2) + 2 ≤ sgE (whoS n1) + 127 ∧ sgE (whoS n1) + 127 ≤ sgE (whoS n2) + 252) := by
  obtain ⟨a1, a2⟩ := who_ok h1
  obtain ⟨b1, b2⟩ := who_ok2 h2 h0
  obtain ⟨-, b4, b5⟩ := b1.sg b2 (by decide) (by decide)
  have bd : whoS n1 ≠ 0 → 127 ≤ sgE (whoS n1) ∧ sgE (whoS n1) ≤ 136 := fun q => (a1.sg q (by decide) (by decide)).2
  have hb : whoS n1 ≠ 0 → sgE (whoS n2) + 2 ≤ sgE (whoS n1) + 127 ∧ sgE (whoS n1) + 127 ≤ sgE (whoS n2) + 252 := fun q => by
    have := bd q; omega
  rw [(i2f_s (n := n1) (by omega)).1, (i2f_s (n := n2) (by omega)).1]
  obtain ⟨e1, e2⟩ := fdiv_s (a1.mono (by decide) (by decide)) (b1.mono (by decide) (by decide)) b2 hb
  refine ⟨e1, ?_, hb⟩
  unfold quoS
  by_cases z : whoS n1 = 0
  · exact Or.inl (if_pos z)
  · have := bd z
    rcases e2 with q | ⟨q1, q2⟩
    · exact Or.inl q
    · exact Or.inr ⟨by omega, by omega⟩
theorem key_ok {k n1 n2 : Nat} (h1 : n1 < 1024) (h2 : n2 < 128) (h0 : n2 ≠ 0) : Okx 110 140 (keyS k n1 n2) := by
  obtain ⟨-, q, -⟩ := quo_ok h1 h2 h0
  unfold keyS
  split
  · have hb : quoS n1 n2 ≠ 0 → halfS ≠ 0 → 130 ≤ sgE (quoS n1 n2) + sgE halfS ∧ sgE (quoS n1 n2) + sgE halfS ≤ 370 := fun z _ => by
      have := (q.sg z (by decide) (by decide)).2
      rw [ok_half.2.2.1]; omega
    by_cases z : quoS n1 n2 = 0
    · exact Or.inl (if_pos (Or.inl z))
    · have := (q.sg z (by decide) (by decide)).2
      rcases (fmul_s (q.mono (by decide) (by decide)) (ok_half.1.mono (by decide) (by decide)) hb).2 with r | ⟨r1, r2⟩
      · exact Or.inl r
      · rw [ok_half.2.2.1] at r1 r2
        exact Or.inr ⟨by omega, by omega⟩
  · split
    · exact (fadd_s q (ok_ten.1.mono (by decide) (by decide)) (by decide) (by decide)).2.mono (by decide) (by decide)
    · split
      · have o1 : Okx 120 137 oneS := ok_one.1.mono (by decide) (by decide)
        have s := (fadd_s q o1 (by decide) (by decide)).2
        have s0 := addS_pos q o1 (by decide) (by decide) ok_one.2.1
        have sb := (s.sg s0 (by decide) (by decide)).2
        rcases (fdiv_s (ok_one.1.mono (by decide) (by decide)) (s.mono (by decide) (by decide)) s0 (fun _ => by rw [ok_one.2.2.1]; omega)).2 with r | ⟨r1, r2⟩
        · exact Or.inl r
        · rw [ok_one.2.2.1] at r1 r2
          exact Or.inr ⟨by omega, by omega⟩
      · exact q.mono (by decide) (by decide)
theorem Okx.num {lo hi x : Nat} (h : Okx lo hi x) (hh : hi ≤ 254) : vf_n32 (UInt32.ofNat x) := num_ok (by rcases h with q | ⟨q1, q2⟩ <;> omega)
theorem Sg.ok {x E c : Nat} (h : Sg x E c) : Okx E E x := by
  have := h.lt.2.1
  exact Or.inr ⟨by omega, by omega⟩
theorem u_two : UInt32.ofNat twoS = FP.fconst2 := rfl
theorem u_one : UInt32.ofNat oneS = FP.fconst1 := rfl
section KEY
variable {G : pm_G} {d : Nat} {h : pm_H}
theorem s_keyFor {k n1 n2 : Nat} {Q : UInt32 → pm_H → Prop} (hk : k < 4) (h1 : n1 < 1024) (h2 : n2 < 128) (h0 : n2 ≠ 0) (w : Q (UInt32.ofNat (keyS k n1 n2)) h) : cf G (d + 1) m_X4_keyFor [.int (nI k), .float (FP.fdiv (FP.i2f (nI n1)) (FP.i2f (nI n2)))] h Q := by
  obtain ⟨e, q, -⟩ := quo_ok h1 h2 h0
  rw [e]
  refine cf_wp rfl (Nat.le_of_ble_eq_true rfl) rfl (x_X4_keyFor ?_)
  have nk1 : nI k = 1 ↔ k = 1 := nI_inj (b := 1) (by omega) (by omega)
  have nk2 : nI k = 2 ↔ k = 2 := nI_inj (b := 2) (by omega) (by omega)
  have nk3 : nI k = 3 ↔ k = 3 := nI_inj (b := 3) (by omega) (by omega)
  unfold keyS at w
  by_cases c1 : k = 1
  · rw [if_pos (nk1.mpr c1)]
    rw [if_pos c1] at w
    have hb : quoS n1 n2 ≠ 0 → halfS ≠ 0 → 130 ≤ sgE (quoS n1 n2) + sgE halfS ∧ sgE (quoS n1 n2) + sgE halfS ≤ 370 := fun z _ => by
      have := (q.sg z (by decide) (by decide)).2
      rw [ok_half.2.2.1]; omega
    have m := (fmul_s (q.mono (by decide) (by decide)) (ok_half.1.mono (by decide) (by decide)) hb).1
    have ko := key_ok (k := 1) h1 h2 h0
    unfold keyS at ko
    rw [if_pos rfl] at ko
    rw [show (1056964608 : UInt32) = UInt32.ofNat halfS from rfl, m]
    exact ⟨ko.num (by decide), _, rfl, w⟩
  · rw [if_neg (fun z => c1 (nk1.mp z))]
    rw [if_neg c1] at w
    by_cases c2 : k = 2
    · rw [if_pos (nk2.mpr c2)]
      rw [if_pos c2] at w
      obtain ⟨m, ko⟩ := fadd_s q (ok_ten.1.mono (by decide) (by decide)) (by decide) (by decide)
      rw [show (1036831949 : UInt32) = UInt32.ofNat tenS from rfl, m]
      exact ⟨ko.num (by decide), _, rfl, w⟩
    · rw [if_neg (fun z => c2 (nk2.mp z))]
      rw [if_neg c2] at w
      by_cases c3 : k = 3
      · rw [if_pos (nk3.mpr c3)]
        rw [if_pos c3] at w
        have o1 : Okx 120 137 oneS := ok_one.1.mono (by decide) (by decide)
        obtain ⟨m, ko⟩ := fadd_s q o1 (by decide) (by decide)
        have s0 := addS_pos q o1 (by decide) (by decide) ok_one.2.1
        have sb := (ko.sg s0 (by decide) (by decide)).2
        have m2 := (fdiv_s (ok_one.1.mono (by decide) (by decide)) (ko.mono (by decide) (by decide)) s0 (fun _ => by rw [ok_one.2.2.1]; omega)).1
        have ko2 := key_ok (k := 3) h1 h2 h0
        unfold keyS at ko2
        rw [if_neg (by decide), if_neg (by decide), if_pos rfl] at ko2
        rw [show FP.fconst1 = UInt32.ofNat oneS from rfl, m, m2]
        exact ⟨ko.num (by decide), ko2.num (by decide), _, rfl, w⟩
      · rw [if_neg (fun z => c3 (nk3.mp z))]
        rw [if_neg c3] at w
        exact ⟨_, rfl, w⟩
/-- one step of BITS -/
theorem half_s {x E c : Nat} (h : Sg x E c) (hE : 3 ≤ E) : FP.fdiv (UInt32.ofNat x) FP.fconst2 = UInt32.ofNat (x - 8388608) ∧ Sg (x - 8388608) (E - 1) c := by
  obtain ⟨l1, l2, l3, l4⟩ := h.lt
  obtain ⟨h1, h2, h3, h4, h5⟩ := h
  have e1 : sgE x = E := l2
  have e2 : sgC x = c := by unfold sgC; rw [if_neg (by omega)]; omega
  obtain ⟨t1, t2, t3, t4⟩ := ok_two
  have m := (fdiv_s (x := x) (y := twoS) (Or.inr ⟨by omega, by omega⟩) (t1.mono (by decide) (by decide)) t2 (fun _ => by rw [t3, e1]; omega)).1
  refine ⟨?_, by omega, h2, h3, by omega, by omega⟩
  rw [show FP.fconst2 = UInt32.ofNat twoS from rfl, m]
  refine congrArg UInt32.ofNat ?_
  unfold divS
  rw [if_neg (by omega), e1, e2, t3, t4, if_pos h2, if_pos h2]
  unfold rnA
  rw [p2_23, near_mul (by decide)]
  omega
theorem twice_s {x E c : Nat} (h : Sg x E c) (hE0 : 2 ≤ E) (hE : E ≤ 126) : FP.fmul (UInt32.ofNat x) FP.fconst2 = UInt32.ofNat (x + 8388608) ∧ Sg (x + 8388608) (E + 1) c := by
  obtain ⟨l1, l2, l3, l4⟩ := h.lt
  obtain ⟨h1, h2, h3, h4, h5⟩ := h
  have e1 : sgE x = E := l2
  have e2 : sgC x = c := by unfold sgC; rw [if_neg (by omega)]; omega
  obtain ⟨t1, t2, t3, t4⟩ := ok_two
  refine ⟨?_, by omega, h2, h3, by omega, by omega⟩
  have m := (fmul_s (x := x) (y := twoS) (Or.inr ⟨by omega, by omega⟩) (t1.mono (by decide) (by decide)) (fun _ _ => by rw [t3, e1]; omega)).1
  rw [show FP.fconst2 = UInt32.ofNat twoS from rfl, m]
  refine congrArg UInt32.ofNat ?_
  obtain ⟨g1, g2⟩ := rn1_exact (k := 23) (E := E + 1) h2 h3
  rw [p2_23] at g1 g2
  have z : ¬ (x = 0 ∨ twoS = 0) := fun q => q.elim (by omega) t2
  unfold mulS
  rw [if_neg z, e1, e2, t3, t4, g1, show E + 128 + (23 + 23) - 173 = E + 1 by omega, g2]
  omega
theorem ok_8 : Okx 150 150 1258291200 ∧ (1258291200 : Nat) ≠ 0 ∧ sgE 1258291200 = 150 ∧ sgC 1258291200 = 8388608 := by unfold Okx; decide
theorem frac_T {T : Nat} (Tp : 0 < T) (lg : T.log2 < 23) : vf_n32 (FP.fmul (UInt32.ofNat (rn1 T (127 + T.log2 - 23))) (UInt32.ofNat 1258291200)) ∧ FP.f2i (FP.fmul (UInt32.ofNat (rn1 T (127 + T.log2 - 23))) (UInt32.ofNat 1258291200)) = nI T := by
  obtain ⟨u1, u2, u3, u4⟩ := ok_8
  obtain ⟨g1, g2⟩ := lg_le Tp
  have p1 : 2 ^ T.log2 * 2 ^ (23 - T.log2) = 8388608 := by rw [← Nat.pow_add, show T.log2 + (23 - T.log2) = 23 by omega, p2_23]
  have p2 : 2 ^ (T.log2 + 1) * 2 ^ (23 - T.log2) = 16777216 := by rw [← Nat.pow_add, show T.log2 + 1 + (23 - T.log2) = 24 by omega, p2_24]
  have a1 := Nat.mul_le_mul_right (2 ^ (23 - T.log2)) g1
  have a2 := Nat.mul_lt_mul_of_pos_right g2 (Nat.two_pow_pos (23 - T.log2))
  obtain ⟨K, hK⟩ : ∃ K, T * 2 ^ (23 - T.log2) = K := ⟨_, rfl⟩
  rw [p1, hK] at a1
  rw [p2, hK] at a2
  have er : rn1 T (127 + T.log2 - 23) = (104 + T.log2) * 8388608 + (K - 8388608) := by
    unfold rn1
    rw [if_pos (by omega), hK, show 127 + T.log2 - 23 = 104 + T.log2 by omega]
  have sg : Sg (rn1 T (127 + T.log2 - 23)) (104 + T.log2) K := ⟨er, a1, a2, by omega, by omega⟩
  obtain ⟨y, hy⟩ : ∃ y, rn1 T (127 + T.log2 - 23) = y := ⟨_, rfl⟩
  rw [hy] at sg ⊢
  obtain ⟨k1, k2, k3, k4⟩ := sg.lt
  have f1 : sgE y = 104 + T.log2 := k2
  have f2 : sgC y = K := by unfold sgC; rw [if_neg (by omega), k3]; omega
  have q := fmul_s (x := y) (y := 1258291200) (sg.ok.mono (by omega) (by omega)) (u1.mono (by decide) (by decide)) (fun _ _ => by rw [f1, u3]; omega)
  have em : mulS y 1258291200 = (127 + T.log2) * 8388608 + (K - 8388608) := by
    obtain ⟨r1, r2⟩ := rn1_exact (c := K) (k := 23) (E := 127 + T.log2) a1 a2
    rw [p2_23] at r1 r2
    have z : ¬ (y = 0 ∨ (1258291200 : Nat) = 0) := fun q => q.elim (by omega) u2
    unfold mulS
    rw [if_neg z, f1, f2, u3, u4, r1, show 104 + T.log2 + 150 + (23 + 23) - 173 = 127 + T.log2 by omega, r2]
  have sg2 : Sg (mulS y 1258291200) (127 + T.log2) K := ⟨em, a1, a2, by omega, by omega⟩
  obtain ⟨w, hw⟩ : ∃ w, mulS y 1258291200 = w := ⟨_, rfl⟩
  rw [q.1]
  rw [hw] at sg2 ⊢
  obtain ⟨j1, j2, j3, j4⟩ := sg2.lt
  refine ⟨num_ok j1, ?_⟩
  rw [(f2i_s (x := w) (sg2.ok.mono (by omega) (by omega))).1]
  refine congrArg nI ?_
  have f3 : sgE w = 127 + T.log2 := j2
  have f4 : sgC w = K := by unfold sgC; rw [if_neg (by omega), j3]; omega
  unfold cutS
  rw [if_neg (by omega), f3, if_pos (by omega), f4, show 150 - (127 + T.log2) = 23 - T.log2 by omega, ← hK, Nat.mul_div_cancel _ (Nat.two_pow_pos _)]
/-- the fraction of a number of 1 or more below 2, as a whole number -/
theorem frac_s {x c : Nat} (h : Sg x 127 c) : vf_n32 (FP.fsub (UInt32.ofNat x) FP.fconst1) ∧ vf_n32 (FP.fmul (FP.fsub (UInt32.ofNat x) FP.fconst1) 1258291200) ∧ FP.f2i (FP.fmul (FP.fsub (UInt32.ofNat x) FP.fconst1) 1258291200) = nI (c - 8388608) := by
  obtain ⟨l1, l2, l3, l4⟩ := h.lt
  obtain ⟨h1, h2, h3, h4, h5⟩ := h
  have e1 : sgE x = 127 := l2
  have e2 : sgC x = c := by unfold sgC; rw [if_neg (by omega)]; omega
  obtain ⟨t1, t2, t3, t4⟩ := ok_one
  have ox : Okx 127 127 x := Or.inr ⟨by omega, by omega⟩
  have le : oneS ≤ x := by show 1065353216 ≤ x; omega
  obtain ⟨m1, m2⟩ := fsub_s ox t1 (by decide) (by decide) le
  rw [show FP.fconst1 = UInt32.ofNat oneS from rfl, m1]
  refine ⟨m2.num (by decide), ?_⟩
  have ok8 : Okx 150 150 1258291200 ∧ (1258291200 : Nat) ≠ 0 ∧ sgE 1258291200 = 150 ∧ sgC 1258291200 = 8388608 := by unfold Okx; decide
  obtain ⟨u1, u2, u3, u4⟩ := ok8
  have eS : subS x oneS = if c - 8388608 = 0 then 0 else rn1 (c - 8388608) (127 + (c - 8388608).log2 - 23) := by
    unfold subS
    rw [if_neg t2, e1, e2, t3, t4, Nat.sub_self, Nat.pow_zero, Nat.mul_one]
  rw [show (1258291200 : UInt32) = UInt32.ofNat 1258291200 from rfl]
  by_cases T0 : c - 8388608 = 0
  · rw [eS, if_pos T0]
    have q := fmul_s (x := 0) (y := 1258291200) (Or.inl rfl) (u1.mono (by decide) (by decide)) (fun z => absurd rfl z)
    rw [q.1, show mulS 0 1258291200 = 0 from if_pos (Or.inl rfl), T0]
    have f := f2i_s (x := 0) (Or.inl rfl)
    exact ⟨num_ok (by decide), by rw [f.1]; rfl⟩
  · rw [eS, if_neg T0]
    have Tp : 0 < c - 8388608 := by omega
    obtain ⟨g1, g2⟩ := lg_le Tp
    have lg : (c - 8388608).log2 < 23 := (Nat.pow_lt_pow_iff_right (by decide : 1 < 2)).mp (Nat.lt_of_le_of_lt g1 (by rw [p2_23]; omega))
    have p1 : 2 ^ (c - 8388608).log2 * 2 ^ (23 - (c - 8388608).log2) = 8388608 := by rw [← Nat.pow_add, show (c - 8388608).log2 + (23 - (c - 8388608).log2) = 23 by omega, p2_23]
    have p2 : 2 ^ ((c - 8388608).log2 + 1) * 2 ^ (23 - (c - 8388608).log2) = 16777216 := by rw [← Nat.pow_add, show (c - 8388608).log2 + 1 + (23 - (c - 8388608).log2) = 24 by omega, p2_24]
    have a1 := Nat.mul_le_mul_right (2 ^ (23 - (c - 8388608).log2)) g1
    have a2 := Nat.mul_lt_mul_of_pos_right g2 (Nat.two_pow_pos (23 - (c - 8388608).log2))
    have er : rn1 (c - 8388608) (127 + (c - 8388608).log2 - 23) = (104 + (c - 8388608).log2) * 8388608 + ((c - 8388608) * 2 ^ (23 - (c - 8388608).log2) - 8388608) := by
      unfold rn1
      rw [if_pos (by omega), show 127 + (c - 8388608).log2 - 23 = 104 + (c - 8388608).log2 by omega]
    rw [er]
    obtain ⟨f1, f2⟩ := frac_T Tp lg
    rw [← er]
    exact ⟨f1, f2⟩
theorem cmpg_pos {o : Option Ordering} : 0 < Op.cmpValue o .g ↔ (o = some .gt ∨ o = none) := by
  cases o with
  | none => decide
  | some x => cases x <;> decide
theorem cmpl_neg {o : Option Ordering} : Op.cmpValue o .l < 0 ↔ (o = some .lt ∨ o = none) := by
  cases o with
  | none => decide
  | some x => cases x <;> decide
theorem s_bitsOf {x : Nat} {Q : Int32 → pm_H → Prop} (hx : Okx 4 250 x) (k : Q (nI x) h) : ci G (d + 1) m_X11_bitsOf [.float (UInt32.ofNat x)] h Q := by
  have hx1 : Okx 1 253 x := hx.mono (by decide) (by decide)
  have o0 : Okx 1 253 0 := Or.inl rfl
  refine ci_wp rfl (Nat.le_of_ble_eq_true rfl) rfl (x_X11_bitsOf ?_)
  obtain ⟨z1, z2, z3⟩ := fcmp_s hx1 o0
  rw [show FP.fconst0 = UInt32.ofNat 0 from rfl]
  by_cases x0 : x = 0
  · rw [if_neg (fun q => by
      rcases cmpg_pos.mp q with r | r
      · have := z3.mp r; omega
      · have := z2.mpr x0; rw [r] at this; cases this)]
    rw [x0] at k
    exact ⟨_, rfl, k⟩
  · rw [if_pos (cmpg_pos.mpr (Or.inl (z3.mpr (by omega))))]
    obtain ⟨sx, b1, b2⟩ := hx.sg x0 (by decide) (by decide)
    have fin : ∀ y, Sg y 127 (sgC x) → ∀ i : Int32, (127 : Int32) ≤ i ∨ (126 : Int32) ≤ i ∨ True → Wp G (m_X11_bitsOf, d + 1, 0, 0, fun v h1 => ∃ r, v = some (.int r) ∧ Q r h1) (0, 0) 42 [.null, .float (UInt32.ofNat y), .int (nI (sgE x)), .int i] [] h := by
      intro y sy i _
      obtain ⟨f1, f2, f3⟩ := frac_s sy
      refine x_X11_bitsOf_42 ?_
      have res : (nI (sgE x) <<< (23 &&& 31)) + nI (sgC x - 8388608) = nI x := by
        rw [E_shl (sgE x) (by omega), nI_add, ← sx.1]
      rw [f3, res]
      split
      · exact ⟨f1, f2, _, rfl, k⟩
      · rw [if_pos ?_]
        · exact ⟨f1, f2, _, rfl, k⟩
        · obtain ⟨c1, c2, c3⟩ := fcmp_s (x := y) (y := oneS) (sy.ok.mono (by omega) (by omega)) (ok_one.1.mono (by decide) (by decide))
          rw [show FP.fconst1 = UInt32.ofNat oneS from rfl, cmpG, c1]
          have := sy.1
          have e1 : oneS = 1065353216 := rfl
          omega
    by_cases big : 128 ≤ sgE x
    · have key := up_to (P := fun j => ∀ y, Sg y (sgE x - j) (sgC x) → Wp G (m_X11_bitsOf, d + 1, 0, 0, fun v h1 => ∃ r, v = some (.int r) ∧ Q r h1) (0, 0) 15 [.null, .float (UInt32.ofNat y), .int (nI (127 + j)), .int (nI j)] [] h) (sgE x - 127) (fun j hj ih => ?_) ?_
      · exact key x sx
      · intro y sy
        refine x_X11_bitsOf_15 ?_
        rw [if_neg (li_no 127 127 rfl (show j < 127 by omega) (by decide))]
        obtain ⟨c1, c2, c3⟩ := fcmp_s (x := y) (y := twoS) (sy.ok.mono (by omega) (by omega)) (ok_two.1.mono (by decide) (by decide))
        obtain ⟨m1, m2⟩ := half_s sy (by omega)
        rw [if_neg (fun q => by
          have ge : twoS ≤ y := by have := sy.1; show 1073741824 ≤ y; have := sy.2.1; omega
          rcases cmpl_neg.mp (show Op.cmpValue (FP.fcmp (UInt32.ofNat y) (UInt32.ofNat twoS)) .l < 0 from q) with r | r
          · have := c1.mp r; omega
          · by_cases e : y = twoS
            · rw [c2.mpr e] at r; cases r
            · rw [c3.mpr (by omega)] at r; cases r), m1, nI_1, nI_1]
        refine ⟨num_ok m2.lt.1, ?_⟩
        rw [show 127 + j + 1 = 127 + (j + 1) by omega]
        exact ih _ (by rw [show sgE x - (j + 1) = sgE x - j - 1 by omega]; exact m2)
      · intro y sy
        rw [show sgE x - (sgE x - 127) = 127 by omega] at sy
        refine x_X11_bitsOf_15 ?_
        rw [show 127 + (sgE x - 127) = sgE x by omega]
        have f0 := fin y sy 0 (Or.inr (Or.inr trivial))
        have oy : Okx 1 253 y := Okx.mono (lo := 127) (hi := 127) sy.ok (by decide) (by decide)
        have c1 := (fcmp_s (x := y) (y := twoS) oy (Okx.mono ok_two.1 (by decide) (by decide))).1
        rw [u_two] at c1
        rw [if_neg (li_no 127 127 rfl (show sgE x - 127 < 127 by omega) (by decide))]
        rw [if_pos (cmpl_neg.mpr (Or.inl (show FP.fcmp (UInt32.ofNat y) FP.fconst2 = some .lt from c1.mpr (by have := sy.1; show y < 1073741824; have := sy.2.2.1; omega))))]
        exact f0
    · refine x_X11_bitsOf_15 ?_
      rw [if_neg (show ¬ (127 : Int32) ≤ 0 by decide)]
      obtain ⟨c1, c2, c3⟩ := fcmp_s (x := x) (y := twoS) hx1 (ok_two.1.mono (by decide) (by decide))
      rw [u_two] at c1
      rw [if_pos (cmpl_neg.mpr (Or.inl (show FP.fcmp (UInt32.ofNat x) FP.fconst2 = some .lt from c1.mpr (by have := sx.1; show x < 1073741824; have := sx.2.2.1; omega))))]
      have key := up_to (P := fun j => ∀ y, Sg y (sgE x + j) (sgC x) → Wp G (m_X11_bitsOf, d + 1, 0, 0, fun v h1 => ∃ r, v = some (.int r) ∧ Q r h1) (0, 0) 42 [.null, .float (UInt32.ofNat y), .int (nI (127 - j)), .int (nI j)] [] h) (127 - sgE x) (fun j hj ih => ?_) ?_
      · exact key x sx
      · intro y sy
        refine x_X11_bitsOf_42 ?_
        rw [if_neg (li_no 126 126 rfl (show j < 126 by omega) (by decide))]
        obtain ⟨c1, c2, c3⟩ := fcmp_s (x := y) (y := oneS) (sy.ok.mono (by omega) (by omega)) (ok_one.1.mono (by decide) (by decide))
        obtain ⟨m1, m2⟩ := twice_s sy (by omega) (by omega)
        have lt1 : y < oneS := by have := sy.1; show y < 1065353216; have := sy.2.2.1; omega
        rw [u_one] at c1
        rw [if_neg (fun q => cmpG.mp q (show FP.fcmp (UInt32.ofNat y) FP.fconst1 = some .lt from c1.mpr lt1)), m1, nI_1, show nI (127 - j) + (-1) = nI (127 - (j + 1)) by rw [show 127 - j = (127 - (j + 1)) + 1 by omega]; exact pk_m1 _]
        exact ⟨num_ok m2.lt.1, ih _ m2⟩
      · intro y sy
        rw [show sgE x + (127 - sgE x) = 127 by omega] at sy
        rw [show 127 - (127 - sgE x) = sgE x by omega]
        exact fin y sy _ (Or.inr (Or.inr trivial))
end KEY
