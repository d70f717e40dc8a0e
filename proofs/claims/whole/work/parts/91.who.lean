/-! WHO, ASK: which HEAP it was -/
abbrev Sn : Type := Nat × Nat × Bool
/-- the KIND that comes as the i-th -/
def ktF (lt : Nat → Nat → Bool) (kd : Nat → Int32) (A : AF) (a i : Nat) : Int32 := if i < (comL lt a A).length then kd ((comL lt a A).getD i 0) else -1
def fitB (kt : Nat → Nat → Int32) (sl : List Sn) (a : Nat) : Bool := sl.all fun s => decide (kt a s.1 = nI s.2.1) == s.2.2
def whoI (fit : Nat → Bool) : Nat → Int32
  | 0 => 0
  | n + 1 => whoI fit n ||| (if fit n = true then (1 : Int32) <<< (nI n &&& 31) else 0)
def wouB (kt : Nat → Nat → Int32) (m : Int32) (q a : Nat) : Bool := bitI m a && decide (kt a (q / 4) = nI (q % 4))
def greI (all : Int32) (w : Nat) : Int32 := if nI w < all - nI w then all - nI w else nI w
def askF (kt : Nat → Nat → Int32) (m all : Int32) (H : Nat) : Nat → Int32 × Int32
  | 0 => (all, -1)
  | q + 1 => if (askF kt m all H q).1 ≤ greI all (cnt (wouB kt m q) H) then askF kt m all H q else (greI all (cnt (wouB kt m q) H), nI q)
def snsOK (sl : List Sn) : Prop := ∀ s ∈ sl, s.1 < 10 ∧ s.2.1 < 4
def snN (s : Sn) : Nat := (s.1 * 4 + s.2.1) * 2 + (if s.2.2 = true then 1 else 0)
def SnC (M : Nat → Nat → Int32) (sl : List Sn) : Prop := ∀ (k : Nat) (s : Sn), sl[k]? = some s → M 129 k = nI (snN s)
def KdC (M : Nat → Nat → Int32) (kt : Nat → Nat → Int32) (H : Nat) : Prop := ∀ a i, a < H → i < 10 → M 96 (10 * a + i) = kt a i
theorem fitB_s {kt : Nat → Nat → Int32} {l : List Sn} {s : Sn} {a : Nat} : fitB kt (l ++ [s]) a = (fitB kt l a && (decide (kt a s.1 = nI s.2.1) == s.2.2)) := by
  unfold fitB
  rw [List.all_append]; simp
theorem take_s {l : List Sn} {k : Nat} {s : Sn} (h : l[k]? = some s) : l.take (k + 1) = l.take k ++ [s] := by
  rw [List.take_add_one, h]; rfl
section WHO
variable {G : pm_G} {d : Nat} {h : pm_H}
theorem FLs_sp2 : ∀ f ∈ FLs, f ≠ 97 → f + 30 < 90 ∨ 128 ≤ f := by decide
theorem TY.cf {M M' : Nat → Nat → Int32} {f : Nat} {A : AF} (hf : f ∈ FLs) (hf2 : f ≠ 97) (h : TY M M') (hC : CF M f A) : CF M' f A := hC.keep fun q hq => h _ (by have := FLs_sp2 f hf hf2; omega) (by have := (FLs_30 hf).1; omega)
theorem s_foresee {Q : pm_H → Prop} {f H w : Nat} {A : AF} (hL : La h) (hf : f ∈ FLs) (hf2 : f ≠ 97) (hH3 : H ≤ 3) (hHi : gi h 4 1 = nI H) (hw : w ≤ 1000) (hA : okA A w) (hC : CF (gi h) f A) (k : ∀ M', TY (gi h) M' → KdC M' (ktF (kLt (gf h 16)) (gi h 13) A) H → Q (sm h M')) : cv G (d + 6) m_X8_foresee [.ref 90, .ref f] h Q := by
  obtain ⟨t0, t1, t2, t3, t4, t5, t6, t7, t8, t9⟩ := hL.tri
  have g30 : gp h 3 0 = 4 := hL.p (by decide +kernel) (by omega)
  have g34 : gp h 3 4 = 12 := hL.p (by decide +kernel) (by omega)
  have r12 : Ro h 12 13 20 := hL.ro (by decide +kernel) (by decide +kernel) (by decide +kernel) (by decide)
  have k4 : h.1[4]? = some (0, 3) := hL.k (by decide +kernel)
  refine cv_wp rfl (Nat.le_of_ble_eq_true rfl) rfl (x_X8_foresee ?_)
  rw [t5]
  refine ⟨t0, t8.1, row_fill t8 ?_⟩
  have key := up_to (P := fun n => ∀ M, TY (gi h) M → (∀ a i, a < 3 → i < 10 → M 96 (10 * a + i) = if a < n then ktF (kLt (gf h 16)) (gi h 13) A a i else -1) → Wp G (m_X8_foresee, d + 6, 0, 0, fun v h1 => v = none ∧ Q h1) (0, 0) 10 [.ref 90, .ref f, .int (nI n), .null] [] (sm h M)) H (fun n hn ih => ?_) ?_
  · refine key (fillM (gi h) 96 30 (-1)) (fun b hb _ => by funext j; unfold fillM; rw [if_neg (by omega)]) (fun a i ha hi => ?_)
    rw [if_neg (Nat.not_lt_zero a)]
    unfold fillM
    rw [if_pos ⟨rfl, by omega⟩]
  · intro M hX h96
    refine x_X8_foresee_10 ?_
    rw [show gp (sm h M) 90 0 = 3 from t1, show gp (sm h M) 3 0 = 4 from g30, show gi (sm h M) 4 1 = nI H from (congrFun (hX 4 (by omega) (by decide)) 1).trans hHi]
    refine ⟨t0, hL.lw.1.1, k4, ?_⟩
    rw [if_neg (show ¬ nI H ≤ nI n from nI_nlen hn (by omega))]
    refine s_takeAll (d := d) (h := sm h M) hL hf hf2 (show n < 3 by omega) hw hA (hX.cf hf hf2 hC) (fun M1 hO hX1 => ?_)
    obtain ⟨o1, o2, o3⟩ := comF_ok (lt := kLt (gf h 16)) (show n < 3 by omega) hw 20 A hA (cnt20 _)
    have len : (comL (kLt (gf h 16)) n A).length ≤ 20 := by
      have := cnt20 (inHp A n)
      show (comF _ _ _ _).length ≤ 20
      omega
    have lk := up_to (P := fun i => ∀ M2, TY (gi h) M2 → Ord M2 (comL (kLt (gf h 16)) n A) → (∀ a' i', a' < 3 → i' < 10 → M2 96 (10 * a' + i') = if a' < n ∨ (a' = n ∧ i' < i) then ktF (kLt (gf h 16)) (gi h 13) A a' i' else -1) → Wp G (m_X8_foresee, d + 6, 0, 0, fun v h1 => v = none ∧ Q h1) (0, 0) 32 [.ref 90, .ref f, .int (nI n), .int (nI i)] [] (sm h M2)) 10 (fun i hi ih2 => ?_) ?_
    · refine lk M1 (hX.trans hX1.ty) hO (fun a' i' ha hi => ?_)
      have := h96 a' i' ha hi
      rw [show M1 96 = M 96 from hX1 96 (by omega) (by decide), this]
      by_cases c : a' < n
      · rw [if_pos c, if_pos (Or.inl c)]
      · rw [if_neg c, if_neg (fun q => by rcases q with q | q <;> omega)]
    · intro M2 hX2 hO2 hk
      refine x_X8_foresee_32 ?_
      rw [if_neg (li_no 10 10 rfl hi (by decide)), nI_1, nI_1]
      refine ⟨t0, ?_⟩
      rw [show gi (sm h M2) 90 3 = nI (comL (kLt (gf h 16)) n A).length from hO2.1]
      by_cases c : (comL (kLt (gf h 16)) n A).length ≤ i
      · rw [if_pos (show nI (comL (kLt (gf h 16)) n A).length ≤ nI i by rw [i_le, nI_toInt (by omega), nI_toInt (by omega)]; omega)]
        refine ih M2 hX2 (fun a' i' ha hi' => ?_)
        rw [hk a' i' ha hi']
        by_cases c1 : a' < n ∨ (a' = n ∧ i' < i)
        · rw [if_pos c1, if_pos (by omega)]
        · rw [if_neg c1]
          by_cases c2 : a' < n + 1
          · rw [if_pos c2]
            unfold ktF
            rw [show a' = n by omega, if_neg (by omega)]
          · rw [if_neg c2]
      · have hil : i < (comL (kLt (gf h 16)) n A).length := by omega
        rw [if_neg (show ¬ nI (comL (kLt (gf h 16)) n A).length ≤ nI i from nI_nlen hil (by omega))]
        have gl := getD_lt (fun t ht => ((o2 t).mp ht).1) hil
        rw [show gp (sm h M2) 90 0 = 3 from t1, show gp (sm h M2) 3 4 = 12 from g34]
        refine ⟨hL.lw.1.1, s_order (d := d + 4) (h := sm h M2) hL hO2 len hil ?_⟩
        have r12' : Ro (sm h M2) 12 13 20 := r12
        refine ⟨r12.1, row_at r12' ?_⟩
        rw [rd_in gl (by decide), show gi (sm h M2) 13 = gi h 13 from hX2 13 (by omega) (by decide)]
        have r95 : Ro (sm h M2) 95 96 30 := t8
        rw [show gp (sm h M2) 90 5 = 95 from t5]
        refine ⟨t8.1, row_set r95 ?_⟩
        rw [show (10 : Int32) = nI 10 from rfl, pk_mul, nI_add, wr_in (show n * 10 + i < 30 by omega) (by decide)]
        refine ih2 _ (hX2.trans (TY.u (by decide))) ?_ (fun a' i' ha hi' => ?_)
        · exact ⟨by rw [pm_u_ne _ _ _ (by decide)]; exact hO2.1, by rw [pm_u_ne _ _ _ (by decide)]; exact hO2.2.1, by rw [pm_u_ne _ _ _ (by decide)]; exact hO2.2.2⟩
        · rw [pm_u_at]
          unfold pm_ui
          by_cases c1 : 10 * a' + i' = n * 10 + i
          · rw [if_pos c1, show a' = n by omega, show i' = i by omega, if_pos (Or.inr ⟨rfl, Nat.lt_succ_self i⟩)]
            unfold ktF
            rw [if_pos hil]
          · rw [if_neg c1, show gi (sm h M2) 96 = M2 96 from rfl, hk a' i' ha hi']
            by_cases c2 : a' < n ∨ (a' = n ∧ i' < i)
            · rw [if_pos c2, if_pos (by omega)]
            · rw [if_neg c2, if_neg (by omega)]
    · intro M2 hX2 hO2 hk
      refine x_X8_foresee_32 ?_
      rw [if_pos (li_yes 10 10 rfl), nI_1]
      refine ih M2 hX2 (fun a' i' ha hi' => ?_)
      rw [hk a' i' ha hi']
      by_cases c : a' < n + 1
      · rw [if_pos c, if_pos (by omega)]
      · rw [if_neg c, if_neg (by omega)]
  · intro M hX h96
    refine x_X8_foresee_10 ?_
    rw [show gp (sm h M) 90 0 = 3 from t1, show gp (sm h M) 3 0 = 4 from g30, show gi (sm h M) 4 1 = nI H from (congrFun (hX 4 (by omega) (by decide)) 1).trans hHi]
    refine ⟨t0, hL.lw.1.1, k4, ?_⟩
    rw [if_pos (show nI H ≤ nI H from Int32.le_refl _)]
    exact ⟨rfl, k M hX (fun a i ha hi => by rw [h96 a i (by omega) hi, if_pos ha])⟩
theorem s_gives {Q : Int32 → pm_H → Prop} {H a i c : Nat} {kt : Nat → Nat → Int32} (hL : La h) (hH3 : H ≤ 3) (hK : KdC (gi h) kt H) (ha : a < H) (hi : i < 10) (k : Q (b2i (decide (kt a i = nI c))) h) : ci G (d + 2) m_X8_gives [.ref 90, .int (nI a), .int (nI i), .int (nI c)] h Q := by
  obtain ⟨t0, t1, t2, t3, t4, t5, t6, t7, t8, t9⟩ := hL.tri
  refine ci_wp rfl (Nat.le_of_ble_eq_true rfl) rfl (x_X8_gives ?_)
  rw [t5]
  refine ⟨t0, t8.1, row_at t8 ?_⟩
  rw [show (10 : Int32) = nI 10 from rfl, pk_mul, nI_add, rd_in (show a * 10 + i < 30 by omega) (by decide), show a * 10 + i = 10 * a + i by omega, hK a i ha hi]
  by_cases z : kt a i = nI c
  · rw [if_pos z]
    rw [decide_eq_true z] at k
    exact ⟨_, rfl, k⟩
  · rw [if_neg z]
    rw [decide_eq_false z] at k
    exact ⟨_, rfl, k⟩
theorem sn_div : ∀ i ∈ List.range 10, ∀ c ∈ List.range 4, ∀ b ∈ [true, false], nI (snN (i, c, b)) / 2 / 4 = nI i ∧ nI (snN (i, c, b)) / 2 - nI (snN (i, c, b)) / 2 / 4 * 4 = nI c ∧ nI (snN (i, c, b)) - nI (snN (i, c, b)) / 2 * 2 = b2i b := by decide +kernel
theorem s_fitting {Q : Int32 → pm_H → Prop} {H : Nat} {kt : Nat → Nat → Int32} {sl : List Sn} (hL : La h) (hH3 : H ≤ 3) (hHi : gi h 4 1 = nI H) (hK : KdC (gi h) kt H) (hS : SnC (gi h) sl) (hs8 : sl.length ≤ 8) (hs : snsOK sl) (k : Q (whoI (fitB kt sl) H) h) : ci G (d + 3) m_X8_fitting [.ref 90, .ref 128, .int (nI sl.length)] h Q := by
  obtain ⟨t0, t1, t2, t3, t4, t5, t6, t7, t8, t9⟩ := hL.tri
  have g30 : gp h 3 0 = 4 := hL.p (by decide +kernel) (by omega)
  have k4 : h.1[4]? = some (0, 3) := hL.k (by decide +kernel)
  have r128 : Ro h 128 129 8 := hL.ro (by decide +kernel) (by decide +kernel) (by decide +kernel) (by decide)
  refine ci_wp rfl (Nat.le_of_ble_eq_true rfl) rfl (x_X8_fitting ?_)
  refine up_to (P := fun n => Wp G (m_X8_fitting, d + 3, 0, 0, fun v h1 => ∃ r, v = some (.int r) ∧ Q r h1) (0, 0) 5 [.ref 90, .ref 128, .int (nI sl.length), .int (whoI (fitB kt sl) n), .int (nI n), .null, .null, .null] [] h) H (fun n hn ih => ?_) ?_
  · refine x_X8_fitting_5 ?_
    rw [t1, g30, hHi]
    refine ⟨t0, hL.lw.1.1, k4, ?_⟩
    rw [if_neg (show ¬ nI H ≤ nI n from nI_nlen hn (by omega))]
    refine up_to (P := fun j => Wp G (m_X8_fitting, d + 3, 0, 0, fun v h1 => ∃ r, v = some (.int r) ∧ Q r h1) (0, 0) 26 [.ref 90, .ref 128, .int (nI sl.length), .int (whoI (fitB kt sl) n), .int (nI n), .int (b2i (fitB kt (sl.take j) n)), .int (nI j), .null] [] h) sl.length (fun j hj ih2 => ?_) ?_
    · refine x_X8_fitting_26 ?_
      obtain ⟨s, e1, -⟩ := get_drop hj
      obtain ⟨v1, v2⟩ := hs s (List.mem_of_getElem? e1)
      rw [if_neg (show ¬ nI sl.length ≤ nI j from nI_nlen hj (by omega)), nI_1]
      refine ⟨r128.1, row_at r128 ?_⟩
      rw [rd_in (show j < 8 by omega) (by decide), hS j s e1]
      rw [take_s e1, fitB_s] at ih2
      by_cases c : fitB kt (sl.take j) n = true
      · rw [c, Bool.true_and] at ih2
        rw [c, if_neg (show ¬ b2i true = 0 by decide)]
        obtain ⟨i, cc, b⟩ := s
        obtain ⟨d1, d2, d3⟩ := sn_div i (List.mem_range.mpr v1) cc (List.mem_range.mpr v2) b (by cases b <;> simp)
        rw [d2, d1, d3]
        refine ⟨t0, s_gives (d := d) hL hH3 hK hn v1 ?_⟩
        cases b with
        | true =>
          rw [if_pos b2i_t]
          simp only at ih2
          by_cases z : kt n i = nI cc
          · rw [decide_eq_true z] at ih2 ⊢
            rw [if_pos b2i_t]; exact ih2
          · rw [decide_eq_false z] at ih2 ⊢
            rw [if_neg (show ¬ b2i false = 1 by decide)]; exact ih2
        | false =>
          rw [if_neg (show ¬ b2i false = 1 by decide)]
          simp only at ih2
          by_cases z : kt n i = nI cc
          · rw [decide_eq_true z] at ih2 ⊢
            rw [if_neg (show ¬ b2i true = 0 by decide)]; exact ih2
          · rw [decide_eq_false z] at ih2 ⊢
            rw [if_pos b2i_f]; exact ih2
      · have c : fitB kt (sl.take j) n = false := by simpa using c
        rw [c, Bool.false_and] at ih2
        rw [c, if_pos b2i_f]
        exact ih2
    · refine x_X8_fitting_26 ?_
      rw [if_pos (show nI sl.length ≤ nI sl.length from Int32.le_refl _), List.take_length, nI_1]
      rw [whoI] at ih
      by_cases c : fitB kt sl n = true
      · rw [if_neg (by rw [c]; decide)]
        rw [if_pos c] at ih
        exact ih
      · rw [if_neg c] at ih
        have c : fitB kt sl n = false := by simpa using c
        rw [if_pos (by rw [c]; rfl)]
        exact ih
  · refine x_X8_fitting_5 ?_
    rw [t1, g30, hHi]
    refine ⟨t0, hL.lw.1.1, k4, ?_⟩
    rw [if_pos (show nI H ≤ nI H from Int32.le_refl _)]
    exact ⟨_, rfl, k⟩
theorem who_sm {fit : Nat → Bool} {H : Nat} (hH : H ≤ 3) : ∃ m, m < 8 ∧ whoI fit H = nI m := by
  have a0 : ∀ b : Bool, ∃ m, m < 2 ∧ ((0 : Int32) ||| (if b = true then (1 : Int32) <<< (nI 0 &&& 31) else 0)) = nI m := by
    intro b; cases b
    · exact ⟨0, by decide, by decide +kernel⟩
    · exact ⟨1, by decide, by decide +kernel⟩
  have a1 : ∀ m ∈ List.range 2, ∀ b ∈ [true, false], (nI m ||| (if b = true then (1 : Int32) <<< (nI 1 &&& 31) else 0)) = nI (m + if b = true then 2 else 0) := by decide +kernel
  have a2 : ∀ m ∈ List.range 4, ∀ b ∈ [true, false], (nI m ||| (if b = true then (1 : Int32) <<< (nI 2 &&& 31) else 0)) = nI (m + if b = true then 4 else 0) := by decide +kernel
  have mb : ∀ b : Bool, b ∈ [true, false] := fun b => by cases b <;> simp
  have w1 : ∃ m, m < 2 ∧ whoI fit 1 = nI m := a0 (fit 0)
  have w2 : ∃ m, m < 4 ∧ whoI fit 2 = nI m := by
    obtain ⟨m, h1, h2⟩ := w1
    refine ⟨m + (if fit 1 = true then 2 else 0), by split <;> omega, ?_⟩
    rw [← a1 m (List.mem_range.mpr h1) (fit 1) (mb _), ← h2]; rfl
  have w3 : ∃ m, m < 8 ∧ whoI fit 3 = nI m := by
    obtain ⟨m, h1, h2⟩ := w2
    refine ⟨m + (if fit 2 = true then 4 else 0), by split <;> omega, ?_⟩
    rw [← a2 m (List.mem_range.mpr h1) (fit 2) (mb _), ← h2]; rfl
  match H, hH with
  | 0, _ => exact ⟨0, by decide, rfl⟩
  | 1, _ => obtain ⟨m, h1, h2⟩ := w1; exact ⟨m, by omega, h2⟩
  | 2, _ => obtain ⟨m, h1, h2⟩ := w2; exact ⟨m, by omega, h2⟩
  | 3, _ => exact w3
def bct (x0 : Int32) : Int32 :=
  let x1 := x0 - ((((x0).toUInt32 >>> ((1 : Int32).toUInt32 &&& Int32.toUInt32 31)).toInt32) &&& 1431655765)
  let x2 := (x1 &&& 858993459) + ((((x1).toUInt32 >>> ((2 : Int32).toUInt32 &&& Int32.toUInt32 31)).toInt32) &&& 858993459)
  let x3 := (x2 + (((x2).toUInt32 >>> ((4 : Int32).toUInt32 &&& Int32.toUInt32 31)).toInt32)) &&& 252645135
  let x4 := x3 + (((x3).toUInt32 >>> ((8 : Int32).toUInt32 &&& Int32.toUInt32 31)).toInt32)
  let x5 := x4 + (((x4).toUInt32 >>> ((16 : Int32).toUInt32 &&& Int32.toUInt32 31)).toInt32)
  x5 &&& 63
def pop8 (m : Nat) : Nat := m % 2 + m / 2 % 2 + m / 4 % 2
theorem bct_8 : ∀ m ∈ List.range 8, bct (nI m) = nI (pop8 m) := by decide +kernel
theorem j_bitCount {Q : Int32 → pm_H → Prop} {m : Nat} (hm : m < 8) (k : Q (nI (pop8 m)) h) : ci G (d + 1) m_J6_bitCount_0f7a4 [.int (nI m)] h Q := by
  rw [← bct_8 m (List.mem_range.mpr hm)] at k
  refine ci_wpF (by decide +kernel) (Nat.le_of_ble_eq_true rfl) rfl (x_J6_bitCount_0f7a4 ?_)
  rintro _ rfl _ rfl _ rfl _ rfl _ rfl
  exact ⟨_, rfl, k⟩
theorem q4 : ∀ q ∈ List.range 40, nI q / 4 = nI (q / 4) ∧ nI q - nI q / 4 * 4 = nI (q % 4) := by decide +kernel
theorem s_bestQuestion {Q : Int32 → pm_H → Prop} {H m : Nat} {kt : Nat → Nat → Int32} (hL : La h) (hH3 : H ≤ 3) (hHi : gi h 4 1 = nI H) (hK : KdC (gi h) kt H) (hm : m < 8) (k : Q (askF kt (nI m) (nI (pop8 m)) H 40).2 h) : ci G (d + 3) m_X8_bestQuestion [.ref 90, .int (nI m)] h Q := by
  obtain ⟨t0, t1, t2, t3, t4, t5, t6, t7, t8, t9⟩ := hL.tri
  have g30 : gp h 3 0 = 4 := hL.p (by decide +kernel) (by omega)
  have k4 : h.1[4]? = some (0, 3) := hL.k (by decide +kernel)
  refine ci_wp rfl (Nat.le_of_ble_eq_true rfl) rfl (x_X8_bestQuestion (j_bitCount (d := d + 1) hm ?_))
  refine up_to (P := fun q => Wp G (m_X8_bestQuestion, d + 3, 0, 0, fun v h1 => ∃ r, v = some (.int r) ∧ Q r h1) (0, 0) 13 [.ref 90, .int (nI m), .int (nI (pop8 m)), .int (askF kt (nI m) (nI (pop8 m)) H q).1, .int (askF kt (nI m) (nI (pop8 m)) H q).2, .int (nI q), .null, .null, .null] [] h) 40 (fun q hq ih => ?_) ?_
  · obtain ⟨d1, d2⟩ := q4 q (List.mem_range.mpr hq)
    refine x_X8_bestQuestion_13 ?_
    rw [if_neg (li_no 40 40 rfl hq (by decide))]
    refine up_to (P := fun n => Wp G (m_X8_bestQuestion, d + 3, 0, 0, fun v h1 => ∃ r, v = some (.int r) ∧ Q r h1) (0, 0) 26 [.ref 90, .int (nI m), .int (nI (pop8 m)), .int (askF kt (nI m) (nI (pop8 m)) H q).1, .int (askF kt (nI m) (nI (pop8 m)) H q).2, .int (nI q), .int (nI (cnt (wouB kt (nI m) q) n)), .int (nI n), .null] [] h) H (fun n hn ih2 => ?_) ?_
    · refine x_X8_bestQuestion_26 ?_
      rw [t1, g30, hHi, d2, d1]
      refine ⟨t0, hL.lw.1.1, k4, ?_⟩
      rw [if_neg (show ¬ nI H ≤ nI n from nI_nlen hn (by omega)), nI_1, nI_1]
      have key := cnt_b (p := wouB kt (nI m) q) (n := n)
      by_cases c : bitI (nI m) n = true
      · rw [if_pos ((bit_at (by omega)).mpr c)]
        refine s_gives (d := d) hL hH3 hK hn (by omega) ?_
        by_cases z : kt n (q / 4) = nI (q % 4)
        · rw [decide_eq_true z, b2i_t, if_neg (by decide)]
          rw [show wouB kt (nI m) q n = true by unfold wouB; rw [c, decide_eq_true z]; rfl, b2i_t, nI_1] at key
          rw [key]; exact ih2
        · rw [decide_eq_false z, b2i_f, if_pos rfl]
          rw [show wouB kt (nI m) q n = false by unfold wouB; rw [decide_eq_false z, Bool.and_false], b2i_f] at key
          rw [key]; exact ih2
      · rw [if_neg (fun q => c ((bit_at (by omega)).mp q))]
        have c : bitI (nI m) n = false := by simpa using c
        rw [show wouB kt (nI m) q n = false by unfold wouB; rw [c, Bool.false_and], b2i_f] at key
        rw [key]; exact ih2
    · refine x_X8_bestQuestion_26 ?_
      rw [t1, g30, hHi]
      refine ⟨t0, hL.lw.1.1, k4, ?_⟩
      rw [if_pos (show nI H ≤ nI H from Int32.le_refl _), nI_1]
      refine j_max (d := d + 1) ?_
      rw [askF] at ih
      by_cases c : (askF kt (nI m) (nI (pop8 m)) H q).1 ≤ greI (nI (pop8 m)) (cnt (wouB kt (nI m) q) H)
      · rw [if_pos c] at ih
        rw [if_pos (show (askF kt (nI m) (nI (pop8 m)) H q).1 ≤ (if nI (cnt (wouB kt (nI m) q) H) < nI (pop8 m) - nI (cnt (wouB kt (nI m) q) H) then nI (pop8 m) - nI (cnt (wouB kt (nI m) q) H) else nI (cnt (wouB kt (nI m) q) H)) from c)]
        exact ih
      · rw [if_neg c] at ih
        rw [if_neg (show ¬ (askF kt (nI m) (nI (pop8 m)) H q).1 ≤ (if nI (cnt (wouB kt (nI m) q) H) < nI (pop8 m) - nI (cnt (wouB kt (nI m) q) H) then nI (pop8 m) - nI (cnt (wouB kt (nI m) q) H) else nI (cnt (wouB kt (nI m) q) H)) from c)]
        exact ih
  · refine x_X8_bestQuestion_13 ?_
    rw [if_pos (li_yes 40 40 rfl)]
    exact ⟨_, rfl, k⟩
end WHO
