/-! AWAY, FAR, WRONG, SPLIT: of a LIST of ITEMS as they come -/
def posI (l : List Nat) (t : Nat) : Nat → Nat
  | 0 => 0
  | n + 1 => if l.getD n 0 = t then n else posI l t n
theorem posI_le (l : List Nat) (t : Nat) : ∀ n, posI l t n ≤ n
  | 0 => Nat.le_refl _
  | n + 1 => by
    rw [posI]
    split
    · omega
    · have := posI_le l t n; omega
def aheadL (ah : Nat → Nat → Bool) (l : List Nat) (t : Nat) (i : Nat) : Bool := ah (l.getD i 0) t
def awayI (ah : Nat → Nat → Bool) (l : List Nat) (t : Nat) : Int32 := nI (posI l t l.length) - nI (cnt (aheadL ah l t) l.length)
def absI (x : Int32) : Int32 := if 0 ≤ x then x else -x
def farF (ah : Nat → Nat → Bool) (l : List Nat) : Nat → Int32
  | 0 => 0
  | n + 1 => mx (farF ah l n) (absI (awayI ah l (l.getD n 0)))
def wrL (lt : Nat → Nat → Bool) (l : List Nat) (n i : Nat) : Bool := lt (l.getD n 0) (l.getD i 0)
def wrF (lt : Nat → Nat → Bool) (l : List Nat) : Nat → Nat
  | 0 => 0
  | n + 1 => wrF lt l n + cnt (wrL lt l n) n
def grL (ah : Nat → Nat → Bool) : Nat → Option Nat → List Nat → Option Nat
  | 0, g, _ => g
  | _ + 1, g, [] => g
  | m + 1, g, t :: r => grL ah m (some (match g with
    | none => t
    | some b => if ah b t = true then t else b)) r
theorem grL_nil {ah : Nat → Nat → Bool} {m : Nat} {g : Option Nat} : grL ah m g [] = g := by cases m <;> rfl
/-- a third, 1 at least -/
def thd (n : Nat) : Nat := if n / 3 < 1 then 1 else n / 3
theorem div3 : ∀ c ∈ List.range 21, nI c / 3 = nI (c / 3) := by decide +kernel
theorem div3' {c : Nat} (h : c ≤ 20) : nI c / 3 = nI (c / 3) := div3 c (List.mem_range.mpr (by omega))
theorem cnt_cons (p : Nat → Bool) : ∀ n, cnt p (n + 1) = (if p 0 = true then 1 else 0) + cnt (fun i => p (i + 1)) n
  | 0 => by
    cases e : p 0 with
    | true => rw [cnt_step e]; rfl
    | false => rw [cnt_skip e]; rfl
  | n + 1 => by
    have ih := cnt_cons p n
    cases e : p (n + 1) with
    | true => rw [cnt_step e, cnt_step (p := fun i => p (i + 1)) e, ih]; omega
    | false => rw [cnt_skip e, cnt_skip (p := fun i => p (i + 1)) e, ih]
theorem cnt_getD (q : Nat → Bool) : ∀ l : List Nat, cnt (fun i => q (l.getD i 0)) l.length = (l.filter q).length
  | [] => rfl
  | t :: r => by
    rw [List.length_cons, cnt_cons, List.filter_cons]
    have := cnt_getD q r
    simp only [List.getD_cons_zero, List.getD_cons_succ]
    rw [this]
    split <;> simp <;> omega
/-- as many in the LIST as in the HEAP -/
theorem cnt_list {p q : Nat → Bool} {l : List Nat} (hn : l.Nodup) (hm : ∀ t, t ∈ l ↔ t < 20 ∧ p t = true) : cnt (fun i => q (l.getD i 0)) l.length = cnt (fun u => p u && q u) 20 := by
  rw [cnt_getD]
  refine (cnt_len (hn.sublist List.filter_sublist) (fun t ht => ((hm t).mp (List.mem_filter.mp ht).1).1) (fun t ht => ?_)).symm
  rw [Bool.and_eq_true, List.mem_filter, hm t]
  exact ⟨fun z => ⟨⟨ht, z.1⟩, z.2⟩, fun z => ⟨z.1.2, z.2⟩⟩
section ORD
variable {G : pm_G} {d : Nat} {h : pm_H}
theorem getD_lt {l : List Nat} (hl : ∀ t ∈ l, t < 20) {i : Nat} (hi : i < l.length) : l.getD i 0 < 20 := by
  have e : l.getD i 0 = l[i] := by simp [List.getD_eq_getElem?_getD, hi]
  rw [e]
  exact hl _ (List.getElem_mem hi)
theorem s_order {l : List Nat} {i : Nat} {Q : Int32 → pm_H → Prop} (hL : La h) (hO : Ord (gi h) l) (hl : l.length ≤ 20) (hi : i < l.length) (k : Q (nI (l.getD i 0)) h) : h.1[gp h 90 2]? = some (0, 6) ∧ ci G (d + 1) m_X6_at [.ref (gp h 90 2), .int (nI i)] h Q := by
  obtain ⟨t0, t1, t2, t3, t4, t5, t6, t7, t8, t9⟩ := hL.tri
  rw [t3]
  refine ⟨t6.1, row_at t6 ?_⟩
  rw [rd_in (show i < 20 by omega) (by decide), hO.2.1 i hi]
  exact k
theorem nI_inj {a b : Nat} (ha : a < 2 ^ 31) (hb : b < 2 ^ 31) : nI a = nI b ↔ a = b := by
  rw [i_eq, nI_toInt ha, nI_toInt hb]; omega
theorem s_awayOf {Q : Int32 → pm_H → Prop} {l : List Nat} {t : Nat} (hL : La h) (hO : Ord (gi h) l) (hll : l.length ≤ 20) (hl : ∀ t ∈ l, t < 20) (ht : t < 20) (k : Q (awayI (ahC (gf h 16)) l t) h) : ci G (d + 3) m_X8_awayOf [.ref 90, .int (nI t)] h Q := by
  obtain ⟨t0, t1, t2, t3, t4, t5, t6, t7, t8, t9⟩ := hL.tri
  have hP := hL.lw.1
  refine ci_wp rfl (Nat.le_of_ble_eq_true rfl) rfl (x_X8_awayOf ?_)
  refine up_to (P := fun n => Wp G (m_X8_awayOf, d + 2 + 1, 0, 0, fun v h1 => ∃ r, v = some (.int r) ∧ Q r h1) (0, 0) 7 [.ref 90, .int (nI t), .int (nI (posI l t n)), .int (nI (cnt (aheadL (ahC (gf h 16)) l t) n)), .int (nI n)] [] h) l.length (fun n hn ih => ?_) ?_
  · refine x_X8_awayOf_7 ⟨t0, ?_⟩
    rw [hO.1, if_neg (show ¬ nI l.length ≤ nI n from nI_nlen hn (by omega))]
    refine s_order (d := d + 1) hL hO hll hn ?_
    have gl := getD_lt hl hn
    have key := cnt_b (p := aheadL (ahC (gf h 16)) l t) (n := n)
    have fin : ∀ x : Int32, x = nI (posI l t (n + 1)) → (h.1[90]? = some (0, 8)) ∧ (h.1[gp h 90 2]? = some (0, 6)) ∧ ci G (d + 2) m_X6_at [.ref (gp h 90 2), .int (nI n)] h fun r3 h4 => (h4.1[gp h 90 0]? = some (0, 4)) ∧ ci G (d + 2) m_X4_isAhead [.ref (gp h 90 0), .int r3, .int (nI t)] h4 fun r5 h6 => if r5 = 0 then Wp G (m_X8_awayOf, d + 2 + 1, 0, 0, fun v h1 => ∃ r, v = some (.int r) ∧ Q r h1) (0, 0) 7 [.ref 90, .int (nI t), .int x, .int (nI (cnt (aheadL (ahC (gf h 16)) l t) n) + 0), .int (nI n + 1)] [] h6 else Wp G (m_X8_awayOf, d + 2 + 1, 0, 0, fun v h1 => ∃ r, v = some (.int r) ∧ Q r h1) (0, 0) 7 [.ref 90, .int (nI t), .int x, .int (nI (cnt (aheadL (ahC (gf h 16)) l t) n) + 1), .int (nI n + 1)] [] h6 := by
      intro x hx
      rw [hx, t1, nI_1, nI_1]
      refine ⟨t0, s_order (d := d + 1) hL hO hll hn ⟨hP.1, s_isAhead hP gl ht ?_⟩⟩
      by_cases z : ahC (gf h 16) (l.getD n 0) t = true
      · rw [z, b2i_t, if_neg (by decide)]
        rw [show aheadL (ahC (gf h 16)) l t n = true from z, b2i_t, nI_1] at key
        rw [key]; exact ih
      · have z : ahC (gf h 16) (l.getD n 0) t = false := by simpa using z
        rw [z, b2i_f, if_pos rfl]
        rw [show aheadL (ahC (gf h 16)) l t n = false from z, b2i_f] at key
        rw [key]; exact ih
    by_cases c : l.getD n 0 = t
    · rw [if_pos (by rw [c])]
      exact fin (nI n) (by rw [posI, if_pos c])
    · rw [if_neg (fun q => c ((nI_inj (by omega) (by omega)).mp q))]
      exact fin (nI (posI l t n)) (by rw [posI, if_neg c])
  · refine x_X8_awayOf_7 ⟨t0, ?_⟩
    rw [hO.1, if_pos (show nI l.length ≤ nI l.length from Int32.le_refl _)]
    exact ⟨_, rfl, k⟩
theorem s_farthest {Q : Int32 → pm_H → Prop} {l : List Nat} (hL : La h) (hO : Ord (gi h) l) (hll : l.length ≤ 20) (hl : ∀ t ∈ l, t < 20) (k : Q (farF (ahC (gf h 16)) l l.length) h) : ci G (d + 4) m_X8_farthest [.ref 90] h Q := by
  obtain ⟨t0, t1, t2, t3, t4, t5, t6, t7, t8, t9⟩ := hL.tri
  refine ci_wp rfl (Nat.le_of_ble_eq_true rfl) rfl (x_X8_farthest ?_)
  refine up_to (P := fun n => Wp G (m_X8_farthest, d + 3 + 1, 0, 0, fun v h1 => ∃ r, v = some (.int r) ∧ Q r h1) (0, 0) 4 [.ref 90, .int (farF (ahC (gf h 16)) l n), .int (nI n)] [] h) l.length (fun n hn ih => ?_) ?_
  · refine x_X8_farthest_4 ⟨t0, ?_⟩
    rw [hO.1, if_neg (show ¬ nI l.length ≤ nI n from nI_nlen hn (by omega)), nI_1]
    have gl := getD_lt hl hn
    refine s_order (d := d + 2) hL hO hll hn ⟨t0, s_awayOf hL hO hll hl gl (j_abs (d := d + 2) (j_max (d := d + 2) ?_))⟩
    exact ih
  · refine x_X8_farthest_4 ⟨t0, ?_⟩
    rw [hO.1, if_pos (show nI l.length ≤ nI l.length from Int32.le_refl _)]
    exact ⟨_, rfl, k⟩
theorem s_wrongPairs {Q : Int32 → pm_H → Prop} {l : List Nat} (hL : La h) (hO : Ord (gi h) l) (hll : l.length ≤ 20) (hl : ∀ t ∈ l, t < 20) (k : Q (nI (wrF (kLt (gf h 16)) l l.length)) h) : ci G (d + 2) m_X8_wrongPairs [.ref 90] h Q := by
  obtain ⟨t0, t1, t2, t3, t4, t5, t6, t7, t8, t9⟩ := hL.tri
  have hP := hL.lw.1
  refine ci_wp rfl (Nat.le_of_ble_eq_true rfl) rfl (x_X8_wrongPairs ?_)
  refine up_to (P := fun n => Wp G (m_X8_wrongPairs, d + 1 + 1, 0, 0, fun v h1 => ∃ r, v = some (.int r) ∧ Q r h1) (0, 0) 4 [.ref 90, .int (nI (wrF (kLt (gf h 16)) l n)), .int (nI n), .null] [] h) l.length (fun n hn ih => ?_) ?_
  · refine x_X8_wrongPairs_4 ⟨t0, ?_⟩
    rw [hO.1, if_neg (show ¬ nI l.length ≤ nI n from nI_nlen hn (by omega))]
    refine up_to (P := fun i => Wp G (m_X8_wrongPairs, d + 1 + 1, 0, 0, fun v h1 => ∃ r, v = some (.int r) ∧ Q r h1) (0, 0) 14 [.ref 90, .int (nI (wrF (kLt (gf h 16)) l n + cnt (wrL (kLt (gf h 16)) l n) i)), .int (nI n), .int (nI i)] [] h) n (fun i hi ih2 => ?_) ?_
    · refine x_X8_wrongPairs_14 ?_
      rw [if_neg (show ¬ nI n ≤ nI i from nI_nlen hi (by omega)), nI_1, nI_1, t1]
      have gl := getD_lt hl hn
      have gl2 := getD_lt hl (show i < l.length by omega)
      refine ⟨t0, ?_⟩
      refine s_order (d := d) hL hO hll hn ⟨hP.1, s_keyOf hP ⟨t0, ?_⟩⟩
      refine s_order (d := d) hL hO hll (show i < l.length by omega) ?_
      rw [t1]
      refine ⟨hP.1, s_keyOf hP ?_⟩
      rw [kyf_in gl, kyf_in gl2]
      by_cases z : FP.fcmp (gf h 16 (l.getD n 0)) (gf h 16 (l.getD i 0)) = some .lt
      · rw [if_neg (fun y => cmpG.mp y z)]
        rw [cnt_step (show wrL (kLt (gf h 16)) l n i = true from decide_eq_true z)] at ih2
        exact ih2
      · rw [if_pos (cmpG.mpr z), show nI (wrF (kLt (gf h 16)) l n + cnt (wrL (kLt (gf h 16)) l n) i) + 0 = nI (wrF (kLt (gf h 16)) l n + cnt (wrL (kLt (gf h 16)) l n) i) from nI_add _ 0]
        rw [cnt_skip (show wrL (kLt (gf h 16)) l n i = false from decide_eq_false z)] at ih2
        exact ih2
    · refine x_X8_wrongPairs_14 ?_
      rw [if_pos (show nI n ≤ nI n from Int32.le_refl _), nI_1]
      exact ih
  · refine x_X8_wrongPairs_4 ⟨t0, ?_⟩
    rw [hO.1, if_pos (show nI l.length ≤ nI l.length from Int32.le_refl _)]
    exact ⟨_, rfl, k⟩
theorem s_thirdLoop {post : pm_PT} {lt : Nat → Nat → Bool} {a w m : Nat} (hlt : lt = kLt (gf h 16)) (hL : La h) (ha : a < 3) (hw : w ≤ 1000) (hm : m < 2 ^ 30) : ∀ (j n : Nat) (A : AF) (i : Nat) (g : Option Nat) (M : Nat → Nat → Int32), okA A w → CF M 97 A → cnt (inHp A a) 20 ≤ n → i + j = m → (∀ b, g = some b → b < 20) → TX (gi h) M → (∀ M', TX (gi h) M' → post (some (.int (oI (grL (ahC (gf h 16)) j g (comF lt a n A))))) (sm h M')) → Wp G (m_X8_greatestOfThird, d + 5, 0, 0, post) (0, 0) 20 [.ref 90, .int (nI a), .int (nI m), .int (oI g), .int (nI i), .null] [] (sm h M) := by
  obtain ⟨t0, t1, t2, t3, t4, t5, t6, t7, t8, t9⟩ := hL.tri
  intro j
  induction j with
  | zero =>
    intro n A i g M hA hC hcn hi hg hX k
    refine x_X8_greatestOfThird_20 ?_
    rw [if_pos (show nI m ≤ nI i by rw [show i = m by omega]; exact Int32.le_refl _)]
    exact k M hX
  | succ j ih =>
    intro n A i g M hA hC hcn hi hg hX k
    refine x_X8_greatestOfThird_20 ?_
    rw [if_neg (show ¬ nI m ≤ nI i from nI_nlen (by omega) (by omega)), nI_1]
    have g1 : gp (sm h M) 90 1 = 97 := t2
    rw [g1]
    refine ⟨t0, t9.1, s_takeFrom (d := d) (h := sm h M) t9 hL.lw.1 ha hw hA hC (fun e => ?_) (fun t A' e M2 hC2 hX2 => ?_)⟩
    · rw [if_pos rfl]
      have e : takeA lt A a = none := by rw [hlt]; exact e
      have en : comF lt a n A = [] := by
        cases n with
        | zero => rfl
        | succ n => rw [comF, e]
      refine ih n A (i + 1) g M hA hC hcn (by omega) hg hX (fun M' hX' => ?_)
      have := k M' hX'
      rw [en, grL_nil] at this
      rw [en, grL_nil]; exact this
    · have e : takeA lt A a = some (t, A') := by rw [hlt]; exact e
      obtain ⟨o1, o2, o3, o4, o5, o6⟩ := takeA_some hA ha hw e
      rw [if_neg (nI_nm1 (by omega))]
      obtain ⟨n', rfl⟩ : ∃ n', n = n' + 1 := ⟨n - 1, by omega⟩
      rw [comF, e] at k
      cases g with
      | none =>
        rw [if_pos (show oI none = -1 from rfl)]
        exact ih n' A' (i + 1) (some t) M2 o1 hC2 (by omega) (by omega) (fun b hb => by cases hb; exact o2) (hX.trans hX2.tx) k
      | some b =>
        have hb := hg b rfl
        rw [show oI (some b) = nI b from rfl, if_neg (nI_nm1 (by omega))]
        have g0 : gp (sm (sm h M) M2) 90 0 = 3 := t1
        rw [g0]
        refine ⟨t0, hL.lw.1.1, s_isAhead (h := sm h M2) hL.lw.1 hb o2 ?_⟩
        by_cases z : ahC (gf h 16) b t = true
        · rw [show ahC (gf (sm h M2) 16) b t = true from z, b2i_t, if_neg (by decide)]
          refine ih n' A' (i + 1) (some t) M2 o1 hC2 (by omega) (by omega) (fun b hb => by cases hb; exact o2) (hX.trans hX2.tx) (fun M' hX' => ?_)
          have := k M' hX'
          rw [grL] at this
          simp only [z, if_true] at this
          exact this
        · have z : ahC (gf h 16) b t = false := by simpa using z
          rw [show ahC (gf (sm h M2) 16) b t = false from z, b2i_f, if_pos rfl]
          refine ih n' A' (i + 1) (some b) M2 o1 hC2 (by omega) (by omega) hg (hX.trans hX2.tx) (fun M' hX' => ?_)
          have := k M' hX'
          rw [grL] at this
          simp only [z, Bool.false_eq_true, if_false] at this
          exact this
theorem s_third {Q : Int32 → pm_H → Prop} {a w : Nat} {A : AF} (hL : La h) (ha : a < 3) (hw : w ≤ 1000) (hA : okA A w) (hC : CF (gi h) 97 A) (k : ∀ M', TX (gi h) M' → Q (oI (grL (ahC (gf h 16)) (thd (comL (kLt (gf h 16)) a A).length) none (comL (kLt (gf h 16)) a A))) (sm h M')) : ci G (d + 5) m_X8_greatestOfThird [.ref 90, .int (nI a)] h Q := by
  obtain ⟨t0, t1, t2, t3, t4, t5, t6, t7, t8, t9⟩ := hL.tri
  have len := (comF_ok (lt := kLt (gf h 16)) ha hw 20 A hA (cnt20 _)).2.2
  have c20 := cnt20 (inHp A a)
  refine ci_wp rfl (Nat.le_of_ble_eq_true rfl) rfl (x_X8_greatestOfThird ?_)
  rw [t2]
  refine ⟨t0, t9.1, s_itemsIn (d := d + 2) t9 ?_⟩
  rw [cnt_congr (q := inHp A a) (fun u hu => by unfold inHp; rw [(hC.2 u hu).1]), div3' c20]
  refine j_max (d := d + 3) ?_
  have e : (if (1 : Int32) < nI (cnt (inHp A a) 20 / 3) then nI (cnt (inHp A a) 20 / 3) else 1) = nI (thd (comL (kLt (gf h 16)) a A).length) := by
    unfold thd
    rw [show (comL (kLt (gf h 16)) a A).length = cnt (inHp A a) 20 from len]
    by_cases z : cnt (inHp A a) 20 / 3 < 1
    · rw [if_pos z, if_neg (by rw [i_lt, nI_toInt (by omega)]; show ¬ (1 : Int) < _; omega)]; rfl
    · rw [if_neg z]
      by_cases z2 : cnt (inHp A a) 20 / 3 = 1
      · rw [z2]; rfl
      · rw [if_pos (by rw [i_lt, nI_toInt (by omega)]; show (1 : Int) < _; omega)]
  rw [e]
  have hlen : (comL (kLt (gf h 16)) a A).length ≤ 20 := by rw [show (comL (kLt (gf h 16)) a A).length = cnt (inHp A a) 20 from len]; exact c20
  have hm : thd (comL (kLt (gf h 16)) a A).length < 2 ^ 30 := by unfold thd; split <;> omega
  exact s_thirdLoop (h := h) (G := G) (d := d) (post := fun v h1 => ∃ r, v = some (.int r) ∧ Q r h1) rfl hL ha hw hm (thd (comL (kLt (gf h 16)) a A).length) 20 A 0 none (gi h) hA hC c20 (Nat.zero_add _) (fun b hb => by cases hb) TX.rfl' (fun M' hX => ⟨_, rfl, k M' hX⟩)
theorem s_splitOf {Q : Int32 → pm_H → Prop} {f a w : Nat} {A : AF} (hL : La h) (hf : f ∈ FLs) (hf2 : f ≠ 97) (ha : a < 3) (hw : w ≤ 1000) (hA : okA A w) (hC : CF (gi h) f A) (k : ∀ M', TX (gi h) M' → Q (oI (grL (ahC (gf h 16)) (thd (comL (kLt (gf h 16)) a A).length) none (comL (kLt (gf h 16)) a A))) (sm h M')) : ci G (d + 6) m_X8_splitOf [.ref 90, .ref f, .int (nI a)] h Q := by
  obtain ⟨t0, t1, t2, t3, t4, t5, t6, t7, t8, t9⟩ := hL.tri
  have sep : 97 + 30 < f ∨ f + 30 < 97 := (FLs_sep f hf hf2).1
  refine ci_wp rfl (Nat.le_of_ble_eq_true rfl) rfl (x_X8_splitOf ?_)
  rw [t2]
  refine ⟨t0, t9.1, s_copyFrom (d := d + 3) t9 (fa_of hL hf) sep hC (fun M1 hC1 hX1 => ⟨t0, ?_⟩)⟩
  exact s_third (d := d) (h := sm h M1) hL ha hw hA hC1 (fun M' hX => ⟨_, rfl, k M' (hX1.tx.trans hX)⟩)
end ORD
