/-! THE REFERENCE's SINGLE numbers -/
def zI (i : Int) : Int32 := Int32.ofInt i
theorem nI_z (n : Nat) : nI n = zI n := rfl
theorem zI_add (a b : Int) : zI a + zI b = zI (a + b) := by
  apply Int32.toBitVec_inj.mp
  rw [Int32.toBitVec_add]
  show BitVec.ofInt 32 a + BitVec.ofInt 32 b = BitVec.ofInt 32 (a + b)
  rw [BitVec.ofInt_add]
theorem zI_neg (a : Int) : -zI a = zI (-a) := by
  apply Int32.toBitVec_inj.mp
  rw [Int32.toBitVec_neg]
  show -BitVec.ofInt 32 a = BitVec.ofInt 32 (-a)
  rw [BitVec.ofInt_neg]
theorem zI_sub (a b : Int) : zI a - zI b = zI (a - b) := by
  rw [Int32.sub_eq_add_neg, zI_neg, zI_add]
  rfl
theorem zI_150 : (150 : Int32) = zI 150 := rfl
theorem zI_23 : (23 : Int32) = zI 23 := rfl
theorem zI_24 : (24 : Int32) = zI 24 := rfl
theorem zI_38 : (38 : Int32) = zI 38 := rfl
def lenN (v : Nat) : Nat := if v = 0 then 0 else v.log2 + 1
theorem c63 : ∀ k, k < 64 → (((nI k).toInt64 &&& 63).toBitVec.smod 64).toNat = k := by decide +kernel
theorem lsh {v k : Nat} (hk : k < 64) (hv : v < 2 ^ 62) : lN v >>> ((nI k).toInt64 &&& 63) = lN (v / 2 ^ k) := pf_shr (c63 k hk) hv
theorem lcmp0 {v : Nat} (hv : v < 2 ^ 62) : (lg_cmp (lN v) (0 : Int64)) ≤ 0 ↔ v = 0 := by
  unfold lg_cmp
  rw [show (0 : Int64) = lN 0 from rfl]
  by_cases c : v = 0
  · subst c
    rw [if_neg (show ¬ lN 0 > lN 0 from by decide), if_pos rfl]
    decide
  · rw [if_pos (show lN v > lN 0 from (pk_lLT (by decide) (by omega)).mpr (by omega))]
    exact ⟨fun q => absurd q (by decide), fun q => absurd q c⟩
theorem lcmp_e {a b : Nat} (ha : a < 2 ^ 63) (hb : b < 2 ^ 63) : (lg_cmp (lN a) (lN b) = 0 ↔ a = b) ∧ (0 < lg_cmp (lN a) (lN b) ↔ b < a) := by
  unfold lg_cmp
  by_cases c : b < a
  · rw [if_pos (show lN a > lN b from (pk_lLT hb ha).mpr c)]
    exact ⟨⟨fun q => absurd q (by decide), fun q => by omega⟩, ⟨fun _ => c, fun _ => by decide⟩⟩
  · rw [if_neg (show ¬ lN a > lN b from fun q => c ((pk_lLT hb ha).mp q))]
    by_cases c2 : a = b
    · rw [c2, if_pos rfl]
      exact ⟨⟨fun _ => rfl, fun _ => rfl⟩, ⟨fun q => absurd q (by decide), fun q => by omega⟩⟩
    · rw [if_neg (fun q => c2 ((pk_lEQ ha hb).mp q))]
      exact ⟨⟨fun q => absurd q (by decide), fun q => absurd q c2⟩, ⟨fun q => absurd q (by decide), fun q => absurd q c⟩⟩
theorem zneg : ∀ L ∈ List.range 24, ¬ (0 : Int32) < zI ((L : Int) - 23) := by decide +kernel
section RSI
variable {G : pm_G} {d : Nat} {h : pm_H}
theorem r_lengthOf {v : Nat} {Q : Int32 → pm_H → Prop} (hv : v < 2 ^ 62) (k : Q (nI (lenN v)) h) : ci G (d + 1) m_X12_lengthOf [.long (lN v)] h Q := by
  have len : lenN v ≤ 62 := by
    unfold lenN
    split
    · omega
    next c =>
      have := (lg_le (show 0 < v by omega)).1
      have : v.log2 < 62 := (Nat.pow_lt_pow_iff_right (by decide : 1 < 2)).mp (Nat.lt_of_le_of_lt this hv)
      omega
  have lo : ∀ n, n < lenN v → v / 2 ^ n ≠ 0 := by
    intro n hn
    unfold lenN at hn
    split at hn
    · omega
    next c =>
      have a := (lg_le (show 0 < v by omega)).1
      have b : 2 ^ n ≤ 2 ^ v.log2 := Nat.pow_le_pow_right (by decide) (by omega)
      have : 1 ≤ v / 2 ^ n := (Nat.le_div_iff_mul_le (Nat.two_pow_pos n)).mpr (by omega)
      omega
  have hi : v / 2 ^ lenN v = 0 := by
    unfold lenN
    split
    next c => rw [c]
    next c => exact Nat.div_eq_of_lt (lg_le (show 0 < v by omega)).2
  refine ci_wp rfl (Nat.le_of_ble_eq_true rfl) rfl (x_X12_lengthOf ?_)
  refine up_to (P := fun n => Wp G (m_X12_lengthOf, d + 1, 0, 0, fun v h1 => ∃ r, v = some (.int r) ∧ Q r h1) (0, 0) 2 [.long (lN v), .null, .int (nI n)] [] h) (lenN v) (fun n hn ih => ?_) ?_
  · refine x_X12_lengthOf_2 ?_
    rw [if_neg (li_no 63 63 rfl (show n < 63 by omega) (by decide)), lsh (by omega) hv]
    have q := Nat.div_le_self v (2 ^ n)
    rw [if_neg (fun z => lo n hn ((lcmp0 (by omega)).mp z)), nI_1]
    exact ih
  · refine x_X12_lengthOf_2 ?_
    rw [if_neg (li_no 63 63 rfl (show lenN v < 63 by omega) (by decide)), lsh (by omega) hv, hi, if_pos ((lcmp0 (by decide)).mpr rfl)]
    exact ⟨_, rfl, k⟩
/-- a half and more is up, of a half alone what is odd, or has more below -/
def upB (v cut : Nat) (b : Bool) : Bool := decide (2 ^ (cut - 1) < v % 2 ^ cut) || (decide (v % 2 ^ cut = 2 ^ (cut - 1)) && (b || decide (v / 2 ^ cut % 2 = 1)))
def rnV (v E : Nat) (b : Bool) : Nat := if v.log2 ≤ 23 then E * 8388608 + (v * 2 ^ (23 - v.log2) - 8388608) else E * 8388608 + (v / 2 ^ (v.log2 - 23) - 8388608) + (if upB v (v.log2 - 23) b = true then 1 else 0)
theorem E_shl : ∀ E, E < 255 → nI E <<< (23 &&& 31) = nI (E * 8388608) := by decide +kernel
theorem bits_i {E c : Nat} (hE : E < 255) (h1 : 8388608 ≤ c) (h2 : c ≤ 16777216) : (nI E <<< (23 &&& 31)) + ((lN c - (8388608 : Int64)).toInt32) = nI (E * 8388608 + (c - 8388608)) := by
  rw [E_shl E hE, show (8388608 : Int64) = lN 8388608 from rfl, lN_sub h1, lN_i, nI_add]
theorem r_nearest {v E : Nat} {pl : Int32} {p : Int} {b : Bool} {Q : Int32 → pm_H → Prop} (hv : 0 < v) (hv2 : v < 2 ^ 62) (hpl : pl = zI p) (hE : (E : Int) = p + v.log2 - 23 + 150) (hE2 : E < 255) (k : Q (nI (rnV v E b)) h) : ci G (d + 2) m_X12_nearest [.long (lN v), .int pl, .int (b2i b)] h Q := by
  obtain ⟨l1, l2⟩ := lg_le hv
  have lg62 : v.log2 < 62 := (Nat.pow_lt_pow_iff_right (by decide : 1 < 2)).mp (Nat.lt_of_le_of_lt l1 hv2)
  refine ci_wp rfl (Nat.le_of_ble_eq_true rfl) rfl (x_X12_nearest ?_)
  rw [show (0 : Int64) = lN 0 from rfl, if_neg (fun q => by have := (lcmp_e (by omega) (by decide)).1.mp q; omega)]
  refine r_lengthOf (d := d) hv2 ?_
  have el : lenN v = v.log2 + 1 := by unfold lenN; rw [if_neg (by omega)]
  have ec : nI (lenN v) - 24 = zI ((v.log2 : Int) - 23) := by
    rw [el, nI_z, zI_24, zI_sub]
    congr 1
    omega
  have eE : (pl + (nI (lenN v) - 24)) + 150 = nI E := by
    rw [hpl, ec, zI_150, zI_add, zI_add, nI_z]
    congr 1
    omega
  rw [eE]
  unfold rnV at k
  by_cases c : v.log2 ≤ 23
  · have p1 : 2 ^ v.log2 * 2 ^ (23 - v.log2) = 8388608 := by rw [← Nat.pow_add, show v.log2 + (23 - v.log2) = 23 by omega, p2_23]
    have p2 : 2 ^ (v.log2 + 1) * 2 ^ (23 - v.log2) = 16777216 := by rw [← Nat.pow_add, show v.log2 + 1 + (23 - v.log2) = 24 by omega, p2_24]
    have a1 := Nat.mul_le_mul_right (2 ^ (23 - v.log2)) l1
    have a2 := Nat.mul_lt_mul_of_pos_right l2 (Nat.two_pow_pos (23 - v.log2))
    have en : -(nI (lenN v) - 24) = nI (23 - v.log2) := by
      rw [ec, zI_neg, nI_z]
      congr 1
      omega
    rw [if_neg (by rw [ec]; exact zneg _ (List.mem_range.mpr (by omega))), en, wb_shl v (show 23 - v.log2 < 64 by omega), bits_i hE2 (by omega) (by omega)]
    rw [if_pos c] at k
    exact ⟨_, rfl, k⟩
  · have e2 : nI (lenN v) - 24 = nI (v.log2 - 23) := by
      rw [ec, nI_z]
      congr 1
      omega
    have p1 : 2 ^ v.log2 = 8388608 * 2 ^ (v.log2 - 23) := by rw [← p2_23, ← Nat.pow_add, show 23 + (v.log2 - 23) = v.log2 by omega]
    have p2 : 2 ^ (v.log2 + 1) = 16777216 * 2 ^ (v.log2 - 23) := by rw [← p2_24, ← Nat.pow_add, show 24 + (v.log2 - 23) = v.log2 + 1 by omega]
    have b1 : 8388608 ≤ v / 2 ^ (v.log2 - 23) := (Nat.le_div_iff_mul_le (Nat.two_pow_pos _)).mpr (by omega)
    have b2 : v / 2 ^ (v.log2 - 23) < 16777216 := (Nat.div_lt_iff_lt_mul (Nat.two_pow_pos _)).mpr (by omega)
    rw [if_neg c] at k
    have half : 2 ^ (v.log2 - 23 - 1) * 2 = 2 ^ (v.log2 - 23) := by rw [← Nat.pow_succ]; congr 1; omega
    have e1 : nI (lenN v) - 24 - 1 = nI (v.log2 - 23 - 1) := by
      rw [e2, show v.log2 - 23 = (v.log2 - 23 - 1) + 1 by omega, nI_pred]
      congr 1
    have eR : lN v - (lN (v / 2 ^ (v.log2 - 23)) <<< ((nI (v.log2 - 23)).toInt64 &&& 63)) = lN (v % 2 ^ (v.log2 - 23)) := by
      rw [wb_shl _ (show v.log2 - 23 < 64 by omega), lN_sub (Nat.div_mul_le_self _ _)]
      congr 1
      have := Nat.div_add_mod v (2 ^ (v.log2 - 23))
      rw [Nat.mul_comm] at this
      omega
    have eH : (1 : Int64) <<< ((nI (v.log2 - 23 - 1)).toInt64 &&& 63) = lN (2 ^ (v.log2 - 23 - 1)) := by
      rw [show (1 : Int64) = lN 1 from rfl, wb_shl 1 (show v.log2 - 23 - 1 < 64 by omega), Nat.one_mul]
    rw [e1, e2, if_pos (by rw [i_lt, nI_toInt (by omega)]; show (0 : Int) < _; omega), lsh (by omega) hv2]
    rintro _ rfl
    rw [eR, eH]
    have m1 : v % 2 ^ (v.log2 - 23) < 2 ^ 62 := Nat.lt_of_le_of_lt (Nat.mod_le _ _) hv2
    have m2 : 2 ^ (v.log2 - 23 - 1) < 2 ^ 62 := Nat.pow_lt_pow_right (by decide) (by omega)
    obtain ⟨x1, x2⟩ := lcmp_e (a := v % 2 ^ (v.log2 - 23)) (b := 2 ^ (v.log2 - 23 - 1)) (by omega) (by omega)
    have w97 : upB v (v.log2 - 23) b = true → Wp G (m_X12_nearest, d + 2, 0, 0, fun v h1 => ∃ r, v = some (.int r) ∧ Q r h1) (0, 0) 97 [.null, .null, .int pl, .null, .int (nI (v.log2 - 23)), .long (lN (v / 2 ^ (v.log2 - 23))), .null, .null, .null, .null, .null, .null] [] h := by
      intro u
      refine x_X12_nearest_97 ?_
      rw [e2] at eE
      rw [eE, bits_i hE2 (by omega) (by omega), nI_1]
      rw [if_pos u] at k
      exact ⟨_, rfl, k⟩
    have w101 : upB v (v.log2 - 23) b = false → Wp G (m_X12_nearest, d + 2, 0, 0, fun v h1 => ∃ r, v = some (.int r) ∧ Q r h1) (0, 0) 101 [.null, .null, .int pl, .null, .int (nI (v.log2 - 23)), .long (lN (v / 2 ^ (v.log2 - 23))), .null, .null, .null, .null, .null, .null] [] h := by
      intro u
      refine x_X12_nearest_101 ?_
      rw [e2] at eE
      rw [eE, bits_i hE2 (by omega) (by omega), show nI (E * 8388608 + (v / 2 ^ (v.log2 - 23) - 8388608)) + 0 = nI (E * 8388608 + (v / 2 ^ (v.log2 - 23) - 8388608) + 0) from nI_add _ 0]
      rw [if_neg (by rw [u]; decide)] at k
      exact ⟨_, rfl, k⟩
    by_cases y1 : 2 ^ (v.log2 - 23 - 1) < v % 2 ^ (v.log2 - 23)
    · rw [if_pos (x2.mpr y1)]
      exact w97 (by unfold upB; rw [decide_eq_true y1]; rfl)
    · rw [if_neg (fun q => y1 (x2.mp q))]
      by_cases y2 : v % 2 ^ (v.log2 - 23) = 2 ^ (v.log2 - 23 - 1)
      · rw [if_pos (x1.mpr y2)]
        cases b with
        | true =>
          rw [if_neg (show ¬ b2i true = 0 by decide)]
          exact w97 (by unfold upB; rw [decide_eq_true y2, Bool.true_or, Bool.true_and, Bool.or_true])
        | false =>
          rw [if_pos b2i_f, wb_a1 (by omega), show (1 : Int64) = lN 1 from rfl]
          by_cases y3 : v / 2 ^ (v.log2 - 23) % 2 = 1
          · rw [if_pos ((lcmp_e (by omega) (by decide)).1.mpr y3)]
            exact w97 (by unfold upB; rw [decide_eq_true y2, decide_eq_true y3]; simp)
          · rw [if_neg (fun q => y3 ((lcmp_e (by omega) (by decide)).1.mp q))]
            exact w101 (by unfold upB; rw [decide_eq_true y2, decide_eq_false y3, decide_eq_false y1]; rfl)
      · rw [if_neg (fun q => y2 (x1.mp q))]
        exact w101 (by unfold upB; rw [decide_eq_false y2, decide_eq_false y1]; rfl)
end RSI
