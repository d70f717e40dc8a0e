/-! THE REFERENCE: WHO, ASK -/
def ko (h : pm_H) (C : Nat → Int32) : pm_H := (h.1, (fun a => if a = 462 then C else gi h a), h.2.2)
theorem ko_ne (h : pm_H) (C : Nat → Int32) {a : Nat} (ha : a ≠ 462) : gi (ko h C) a = gi h a := by
  show (if a = 462 then C else gi h a) = gi h a
  exact if_neg ha
theorem ko_gi (h : pm_H) (C : Nat → Int32) : gi (ko h C) 462 = C := by
  show (if (462 : Nat) = 462 then C else gi h 462) = C
  exact if_pos rfl
theorem ko_self (h : pm_H) : ko h (gi h 462) = h := by
  have : (fun a => if a = 462 then gi h 462 else gi h a) = gi h := by
    funext a
    by_cases ha : a = 462
    · rw [if_pos ha, ha]
    · rw [if_neg ha]
  show (h.1, (fun a => if a = 462 then gi h 462 else gi h a), h.2.2) = h
  rw [this]
theorem sfq (h : pm_H) (S C F P K : Nat → Int32) : gi (s8 (fp (co (ko h K) C) F P) S) 462 = K := (sfk _ S C F P (by decide) (by decide) (by decide) (by decide)).trans (ko_gi h K)
theorem ko_si (h : pm_H) (K C S F P : Nat → Int32) (i : Nat) (v : Int32) : si (s8 (fp (co (ko h K) C) F P) S) 462 i v = s8 (fp (co (ko h (up1 K i v)) C) F P) S := by
  have : pm_u (gi (s8 (fp (co (ko h K) C) F P) S)) 462 i v = gi (s8 (fp (co (ko h (up1 K i v)) C) F P) S) := by
    funext a
    by_cases h8 : a = 458
    · subst h8
      rw [pm_u_ne _ _ _ (by decide), s8_gi, s8_gi]
    · rw [s8_ne _ _ h8]
      by_cases h6 : a = 456
      · subst h6
        rw [pm_u_ne _ _ _ (by decide), s8_ne _ _ (by decide)]
        rfl
      · by_cases h7 : a = 457
        · subst h7
          rw [pm_u_ne _ _ _ (by decide), s8_ne _ _ (by decide)]
          rfl
        · rw [fp_ne _ _ _ h6 h7]
          by_cases h1 : a = 461
          · subst h1
            rw [pm_u_ne _ _ _ (by decide), sfc, co_gi]
          · rw [co_ne _ _ h1]
            by_cases h2 : a = 462
            · subst h2
              rw [pm_u_at, sfq, ko_gi]
              rfl
            · rw [pm_u_ne _ _ _ h2, sfk _ _ _ _ _ h6 h7 h8 h1, ko_ne _ _ h2, ko_ne _ _ h2]
  show ((s8 (fp (co (ko h K) C) F P) S).1, pm_u (gi (s8 (fp (co (ko h K) C) F P) S)) 462 i v, (s8 (fp (co (ko h K) C) F P) S).2.2) = _
  rw [this]
  rfl
def KdR (K : Nat → Int32) (kt : Nat → Nat → Int32) (H : Nat) : Prop := ∀ a i, a < H → i < 10 → K (10 * a + i) = kt a i
def SnR (S : Nat → Int32) (sl : List Sn) : Prop := S 320 = nI sl.length ∧ ∀ (k : Nat) (s : Sn), sl[k]? = some s → S (321 + 3 * k) = nI s.1 ∧ S (321 + 3 * k + 1) = nI s.2.1 ∧ S (321 + 3 * k + 2) = b2i s.2.2
section RWH
variable {G : pm_G} {d : Nat} {h : pm_H} {F P : Nat → Int32}
theorem La.kin (hL : La h) : gp h 446 23 = 462 ∧ h.1[462]? = some (1, 30) := ⟨hL.p (by decide +kernel) (by omega), hL.k (by decide +kernel)⟩
theorem r_laysKinds {ky S C K : Nat → Int32} {Q : pm_H → Prop} {H w : Nat} {A : AF} (hL : La h) (hHi : gi h 452 0 = nI H) (hH3 : H ≤ 3) (hw : w ≤ 1000) (hA : okA A w) (hC : RA ky S 0 A) (k : ∀ S' C' K', RZ S S' 3795 → KdR K' (ktF (rLt ky) (fun u => gi h 452 (7 + 4 * u)) A) H → Q (s8 (fp (co (ko h K') C') F P) S')) : cv G (d + 22) m_X12_laysKinds [.ref 446] (s8 (fp (co (ko h K) C) F P) S) Q := by
  have e452 : ∀ K, gi (ko h K) 452 = gi h 452 := fun K => ko_ne h K (by decide)
  have e452' : ∀ K C, gi (co (ko h K) C) 452 = gi h 452 := fun K C => (co_ne _ C (by decide)).trans (e452 K)
  refine cv_wp rfl (Nat.le_of_ble_eq_true rfl) rfl (x_X12_laysKinds ?_)
  have key := up_to (P := fun n => ∀ S1 C1 K1, RZ S S1 3795 → (∀ a i, a < n → i < 10 → K1 (10 * a + i) = ktF (rLt ky) (fun u => gi h 452 (7 + 4 * u)) A a i) → Wp G (m_X12_laysKinds, d + 22, 0, 0, fun v h1 => v = none ∧ Q h1) (0, 0) 2 [.ref 446, .int (nI n), .null, .null] [] (s8 (fp (co (ko h K1) C1) F P) S1)) H (fun n hn ih => ?_) ?_
  · exact key S C K RZ.rfl' (fun a i ha _ => absurd ha (Nat.not_lt_zero a))
  · intro S1 C1 K1 hZ h96
    refine x_X12_laysKinds_2 ⟨hL.md.1, r_heaps (h := co (ko h K1) C1) (d := d + 20) hL.mk (by rw [e452']; exact hHi) ?_⟩
    rw [if_neg (show ¬ nI H ≤ nI n from nI_nlen hn (by omega))]
    have hC1 : RA ky S1 0 A := hC.move fun i hi => by rw [Nat.zero_add]; exact hZ i (Or.inl (by omega))
    refine ⟨hL.md.1, r_comesOf (h := ko h K1) (b := 0) (d := d) hL (Or.inl (by decide)) (show n < 3 by omega) hw hA hC1 (fun S2 C2 hO hZ2 => ?_)⟩
    obtain ⟨o1, o2, o3⟩ := comF_ok (lt := rLt ky) (show n < 3 by omega) hw 20 A hA (cnt20 _)
    have len : (comL (rLt ky) n A).length ≤ 20 := by
      have := cnt20 (inHp A n)
      show (comF _ _ _ _).length ≤ 20
      omega
    have g23 : ∀ K, gp (s8 (fp (co (ko h K) C2) F P) S2) 446 23 = 462 := fun K => hL.kin.1
    have g22 : ∀ K, gp (s8 (fp (co (ko h K) C2) F P) S2) 446 22 = 461 := fun K => hL.com.1
    have lk := up_to (P := fun i => ∀ K2, (∀ a' i', (a' < n ∧ i' < 10) ∨ (a' = n ∧ i' < i) → K2 (10 * a' + i') = ktF (rLt ky) (fun u => gi h 452 (7 + 4 * u)) A a' i') → Wp G (m_X12_laysKinds, d + 22, 0, 0, fun v h1 => v = none ∧ Q h1) (0, 0) 19 [.ref 446, .int (nI n), .int (nI (comL (rLt ky) n A).length), .int (nI i)] [] (s8 (fp (co (ko h K2) C2) F P) S2)) 10 (fun i hi ih2 => ?_) ?_
    · refine lk K1 (fun a' i' q => ?_)
      rcases q with q | q
      · exact h96 a' i' q.1 q.2
      · exact absurd q.2 (Nat.not_lt_zero i')
    · intro K2 hk
      refine x_X12_laysKinds_19 ?_
      have put : ∀ v : Int32, v = ktF (rLt ky) (fun u => gi h 452 (7 + 4 * u)) A n i → Wp G (m_X12_laysKinds, d + 22, 0, 0, fun v h1 => v = none ∧ Q h1) (0, 0) 19 [.ref 446, .int (nI n), .int (nI (comL (rLt ky) n A).length), .int (nI (i + 1))] [] (si (s8 (fp (co (ko h K2) C2) F P) S2) 462 (10 * n + i) v) := by
        intro v hv
        rw [ko_si]
        refine ih2 _ (fun a' i' q => ?_)
        by_cases c : 10 * a' + i' = 10 * n + i
        · rw [c, up1_at, hv, show a' = n by omega, show i' = i by omega]
        · rw [up1_ne _ _ c]
          exact hk a' i' (by omega)
      rw [if_neg (li_no 10 10 rfl hi (by decide)), nI_1, g23, show (10 : Int32) = nI 10 from rfl, pk_mul, nI_add, cl_nI (show 10 * n + i < 2 ^ 31 by omega)]
      refine ⟨hL.md.1, ?_⟩
      by_cases c : (comL (rLt ky) n A).length ≤ i
      · rw [if_pos (show nI (comL (rLt ky) n A).length ≤ nI i by rw [i_le, nI_toInt (by omega), nI_toInt (by omega)]; omega)]
        refine ⟨30, hL.kin.2, vp_nI (by omega) (by decide), ?_⟩
        rintro _ rfl
        exact put (-1) (by unfold ktF; rw [if_neg (by omega)])
      · have hil : i < (comL (rLt ky) n A).length := by omega
        have gl : (comL (rLt ky) n A).getD i 0 < 20 := getD_lt (fun t ht => ((o2 t).mp ht).1) hil
        rw [if_neg (show ¬ nI (comL (rLt ky) n A).length ≤ nI i from nI_nlen hil (by omega)), g22, cl_nI (show i < 2 ^ 31 by omega), sfc, hO i hil]
        refine ⟨20, hL.com.2, vp_nI (by omega) (by decide), r_itemOf (h := co (ko h K2) C2) (t := (comL (rLt ky) n A).getD i 0) (w := 0) (d := d + 20) hL.mk (by omega) ?_⟩
        rw [e452']
        refine ⟨30, hL.kin.2, vp_nI (by omega) (by decide), ?_⟩
        rintro _ rfl
        exact put _ (by unfold ktF; rw [if_pos hil]; rfl)
    · intro K2 hk
      refine x_X12_laysKinds_19 ?_
      rw [if_pos (li_yes 10 10 rfl), nI_1]
      refine ih S2 C2 K2 (hZ.trans hZ2) (fun a i ha hi => hk a i ?_)
      by_cases c : a < n
      · exact Or.inl ⟨c, hi⟩
      · exact Or.inr ⟨by omega, hi⟩
  · intro S1 C1 K1 hZ h96
    refine x_X12_laysKinds_2 ⟨hL.md.1, r_heaps (h := co (ko h K1) C1) (d := d + 20) hL.mk (by rw [e452']; exact hHi) ?_⟩
    rw [if_pos (show nI H ≤ nI H from Int32.le_refl _)]
    exact ⟨rfl, k S1 C1 K1 hZ h96⟩
theorem r_whoNow {ky S C K : Nat → Int32} {Q : Int32 → pm_H → Prop} {H w : Nat} {A : AF} {sl : List Sn} (hL : La h) (hHi : gi h 452 0 = nI H) (hH3 : H ≤ 3) (hw : w ≤ 1000) (hA : okA A w) (hC : RA ky S 0 A) (hS : SnR S sl) (hs8 : sl.length ≤ 8) (hs : snsOK sl) (k : ∀ S' C' K', RZ S S' 3795 → KdR K' (ktF (rLt ky) (fun u => gi h 452 (7 + 4 * u)) A) H → Q (whoI (fitB (ktF (rLt ky) (fun u => gi h 452 (7 + 4 * u)) A) sl) H) (s8 (fp (co (ko h K') C') F P) S')) : ci G (d + 23) m_X12_whoNow [.ref 446] (s8 (fp (co (ko h K) C) F P) S) Q := by
  refine ci_wp rfl (Nat.le_of_ble_eq_true rfl) rfl (x_X12_whoNow ⟨hL.md.1, r_laysKinds (d := d) hL hHi hH3 hw hA hC (fun S1 C1 K1 hZ hK => ?_)⟩)
  have fin := k S1 C1 K1 hZ hK
  generalize ktF (rLt ky) (fun u => gi h 452 (7 + 4 * u)) A = kt at hK fin
  have hS1 : SnR S1 sl := by
    refine ⟨(hZ 320 (Or.inl (by decide))).trans hS.1, fun j s e => ?_⟩
    obtain ⟨v1, v2, v3⟩ := hS.2 j s e
    have hj : j < sl.length := (List.getElem?_eq_some_iff.mp e).1
    exact ⟨(hZ _ (Or.inl (by omega))).trans v1, (hZ _ (Or.inl (by omega))).trans v2, (hZ _ (Or.inl (by omega))).trans v3⟩
  have e452 : gi (co (ko h K1) C1) 452 = gi h 452 := (co_ne _ C1 (by decide)).trans (ko_ne h K1 (by decide))
  have g17 : gp (s8 (fp (co (ko h K1) C1) F P) S1) 446 17 = 458 := hL.md.2.1
  have g23 : gp (s8 (fp (co (ko h K1) C1) F P) S1) 446 23 = 462 := hL.kin.1
  refine up_to (P := fun n => Wp G (m_X12_whoNow, d + 23, 0, 0, fun v h1 => ∃ r, v = some (.int r) ∧ Q r h1) (0, 0) 8 [.ref 446, .int (whoI (fitB kt sl) n), .int (nI n), .null, .null, .null] [] (s8 (fp (co (ko h K1) C1) F P) S1)) H (fun n hn ih => ?_) ?_
  · refine x_X12_whoNow_8 ⟨hL.md.1, r_heaps (h := co (ko h K1) C1) (d := d + 21) hL.mk (by rw [e452]; exact hHi) ?_⟩
    rw [if_neg (show ¬ nI H ≤ nI n from nI_nlen hn (by omega))]
    refine up_to (P := fun j => Wp G (m_X12_whoNow, d + 23, 0, 0, fun v h1 => ∃ r, v = some (.int r) ∧ Q r h1) (0, 0) 21 [.ref 446, .int (whoI (fitB kt sl) n), .int (nI n), .int (b2i (fitB kt (sl.take j) n)), .int (nI j), .null] [] (s8 (fp (co (ko h K1) C1) F P) S1)) sl.length (fun j hj ih2 => ?_) ?_
    · refine x_X12_whoNow_21 ?_
      obtain ⟨s, e1, -⟩ := get_drop hj
      obtain ⟨v1, v2⟩ := hs s (List.mem_of_getElem? e1)
      obtain ⟨u1, u2, u3⟩ := hS1.2 j s e1
      rw [g17, s8_gi, show (320 : Int32).toNatClampNeg = 320 from rfl, hS1.1]
      refine ⟨hL.md.1, 4485, hL.md.2.2, vp_nI (k := 320) (by decide) (by decide), ?_⟩
      rw [if_neg (show ¬ nI sl.length ≤ nI j from nI_nlen hj (by omega)), nI_1]
      rw [take_s e1, fitB_s] at ih2
      by_cases c : fitB kt (sl.take j) n = true
      · rw [c, Bool.true_and] at ih2
        rw [c, if_neg (show ¬ b2i true = 0 by decide)]
        rw [show (321 : Int32) + (3 * nI j) = nI (321 + 3 * j) from ix_l 321 j, show (1 : Int32) = nI 1 from rfl, show (2 : Int32) = nI 2 from rfl, nI_add, nI_add, cl_nI (show 321 + 3 * j < 2 ^ 31 by omega), cl_nI (show 321 + 3 * j + 1 < 2 ^ 31 by omega), cl_nI (show 321 + 3 * j + 2 < 2 ^ 31 by omega), u1, u2, u3, g23, sfq, show (10 : Int32) = nI 10 from rfl, pk_mul, nI_add, cl_nI (show 10 * n + s.1 < 2 ^ 31 by omega), hK n s.1 hn v1]
        refine ⟨vp_nI (by omega) (by decide), 30, hL.kin.2, vp_nI (by omega) (by decide), vp_nI (by omega) (by decide), ?_⟩
        by_cases z : kt n s.1 = nI s.2.1
        · rw [if_pos z]
          rw [decide_eq_true z] at ih2
          refine ⟨vp_nI (by omega) (by decide), ?_⟩
          cases e2 : s.2.2 with
          | true =>
            rw [e2] at ih2
            rw [if_pos (show b2i true = nI 1 from rfl)]; exact ih2
          | false =>
            rw [e2] at ih2
            rw [if_neg (show ¬ b2i false = nI 1 by decide)]; exact ih2
        · rw [if_neg z]
          rw [decide_eq_false z] at ih2
          refine ⟨vp_nI (by omega) (by decide), ?_⟩
          cases e2 : s.2.2 with
          | true =>
            rw [e2] at ih2
            rw [if_pos (show b2i true = nI 1 from rfl)]; exact ih2
          | false =>
            rw [e2] at ih2
            rw [if_neg (show ¬ b2i false = nI 1 by decide)]; exact ih2
      · have c : fitB kt (sl.take j) n = false := by simpa using c
        rw [c, Bool.false_and] at ih2
        rw [c, if_pos b2i_f]
        exact ih2
    · refine x_X12_whoNow_21 ?_
      rw [g17, s8_gi, show (320 : Int32).toNatClampNeg = 320 from rfl, hS1.1, List.take_length, nI_1]
      refine ⟨hL.md.1, 4485, hL.md.2.2, vp_nI (k := 320) (by decide) (by decide), ?_⟩
      rw [if_pos (show nI sl.length ≤ nI sl.length from Int32.le_refl _)]
      rw [whoI] at ih
      by_cases c : fitB kt sl n = true
      · rw [if_neg (by rw [c]; decide)]
        rw [if_pos c] at ih
        exact ih
      · rw [if_neg c] at ih
        have c : fitB kt sl n = false := by simpa using c
        rw [if_pos (by rw [c]; rfl)]
        exact ih
  · refine x_X12_whoNow_8 ⟨hL.md.1, r_heaps (h := co (ko h K1) C1) (d := d + 21) hL.mk (by rw [e452]; exact hHi) ?_⟩
    rw [if_pos (show nI H ≤ nI H from Int32.le_refl _)]
    exact ⟨_, rfl, fin⟩
def onesF (x : Int32) : Nat → Int32
  | 0 => 0
  | n + 1 => onesF x n + ((x >>> (nI n &&& 31)) &&& 1)
theorem ones_8 : ∀ m ∈ List.range 8, onesF (nI m) 30 = nI (pop8 m) := by decide +kernel
theorem r_ones {h : pm_H} {Q : Int32 → pm_H → Prop} {m : Nat} (hm : m < 8) (k : Q (nI (pop8 m)) h) : ci G (d + 1) m_X12_ones [.int (nI m)] h Q := by
  rw [← ones_8 m (List.mem_range.mpr hm)] at k
  refine ci_wp rfl (Nat.le_of_ble_eq_true rfl) rfl (x_X12_ones ?_)
  refine up_to (P := fun n => Wp G (m_X12_ones, d + 1, 0, 0, fun v h1 => ∃ r, v = some (.int r) ∧ Q r h1) (0, 0) 4 [.int (nI m), .int (onesF (nI m) n), .int (nI n)] [] h) 30 (fun n hn ih => ?_) ?_
  · refine x_X12_ones_4 ?_
    rw [if_neg (li_no 30 30 rfl hn (by decide)), nI_1]
    exact ih
  · refine x_X12_ones_4 ?_
    rw [if_pos (li_yes 30 30 rfl)]
    exact ⟨_, rfl, k⟩
theorem r_askLoop {S C K : Nat → Int32} {Q : Int32 → pm_H → Prop} {H m : Nat} {kt : Nat → Nat → Int32} (hL : La h) (hHi : gi h 452 0 = nI H) (hH3 : H ≤ 3) (hK : KdR K kt H) (hm : m < 8) (k : Q (askF kt (nI m) (nI (pop8 m)) H 40).2 (s8 (fp (co (ko h K) C) F P) S)) : Wp G (m_X12_ask, d + 24, 0, 0, fun v h1 => ∃ r, v = some (.int r) ∧ Q r h1) (0, 0) 30 [.ref 446, .int (nI m), .int (-1), .int (nI (pop8 m)), .int 0, .null, .null] [] (s8 (fp (co (ko h K) C) F P) S) := by
  have e452 : gi (co (ko h K) C) 452 = gi h 452 := (co_ne _ C (by decide)).trans (ko_ne h K (by decide))
  have g23 : gp (s8 (fp (co (ko h K) C) F P) S) 446 23 = 462 := hL.kin.1
  refine up_to (P := fun q => Wp G (m_X12_ask, d + 24, 0, 0, fun v h1 => ∃ r, v = some (.int r) ∧ Q r h1) (0, 0) 30 [.ref 446, .int (nI m), .int (askF kt (nI m) (nI (pop8 m)) H q).2, .int (askF kt (nI m) (nI (pop8 m)) H q).1, .int (nI q), .null, .null] [] (s8 (fp (co (ko h K) C) F P) S)) 40 (fun q hq ih => ?_) ?_
  · obtain ⟨d1, d2⟩ := q4 q (List.mem_range.mpr hq)
    refine x_X12_ask_30 ?_
    rw [if_neg (li_no 40 40 rfl hq (by decide))]
    refine up_to (P := fun n => Wp G (m_X12_ask, d + 24, 0, 0, fun v h1 => ∃ r, v = some (.int r) ∧ Q r h1) (0, 0) 43 [.ref 446, .int (nI m), .int (askF kt (nI m) (nI (pop8 m)) H q).2, .int (askF kt (nI m) (nI (pop8 m)) H q).1, .int (nI q), .int (nI (cnt (wouB kt (nI m) q) n)), .int (nI n)] [] (s8 (fp (co (ko h K) C) F P) S)) H (fun n hn ih2 => ?_) ?_
    · refine x_X12_ask_43 ⟨hL.md.1, r_heaps (h := co (ko h K) C) (d := d + 22) hL.mk (by rw [e452]; exact hHi) ?_⟩
      rw [if_neg (show ¬ nI H ≤ nI n from nI_nlen hn (by omega)), nI_1, nI_1]
      have key := cnt_b (p := wouB kt (nI m) q) (n := n)
      by_cases c : bitI (nI m) n = true
      · rw [if_pos ((bit_at (by omega)).mpr c), d2, d1, g23, sfq, show (10 : Int32) = nI 10 from rfl, pk_mul, nI_add, cl_nI (show 10 * n + q / 4 < 2 ^ 31 by omega), hK n (q / 4) hn (by omega)]
        refine ⟨hL.md.1, 30, hL.kin.2, vp_nI (by omega) (by decide), ?_⟩
        by_cases z : kt n (q / 4) = nI (q % 4)
        · rw [if_pos z]
          rw [show wouB kt (nI m) q n = true by unfold wouB; rw [c, decide_eq_true z]; rfl, b2i_t, nI_1] at key
          rw [key]; exact ih2
        · rw [if_neg z]
          rw [show wouB kt (nI m) q n = false by unfold wouB; rw [decide_eq_false z, Bool.and_false], b2i_f] at key
          rw [key]; exact ih2
      · rw [if_neg (fun q => c ((bit_at (by omega)).mp q))]
        have c : bitI (nI m) n = false := by simpa using c
        rw [show wouB kt (nI m) q n = false by unfold wouB; rw [c, Bool.false_and], b2i_f] at key
        rw [key]; exact ih2
    · refine x_X12_ask_43 ⟨hL.md.1, r_heaps (h := co (ko h K) C) (d := d + 22) hL.mk (by rw [e452]; exact hHi) ?_⟩
      rw [if_pos (show nI H ≤ nI H from Int32.le_refl _), nI_1]
      refine r_ones (d := d + 22) hm ?_
      rw [askF] at ih
      unfold greI at ih
      by_cases c : nI (cnt (wouB kt (nI m) q) H) < nI (pop8 m) - nI (cnt (wouB kt (nI m) q) H)
      · rw [if_pos (Int32.le_of_lt c)]
        simp only [if_pos c] at ih
        refine r_ones (d := d + 22) hm ?_
        by_cases c2 : (askF kt (nI m) (nI (pop8 m)) H q).1 ≤ nI (pop8 m) - nI (cnt (wouB kt (nI m) q) H)
        · simp only [if_pos c2] at ih ⊢
          exact ih
        · simp only [if_neg c2] at ih ⊢
          exact ih
      · simp only [if_neg c] at ih
        by_cases c3 : nI (cnt (wouB kt (nI m) q) H) ≤ nI (pop8 m) - nI (cnt (wouB kt (nI m) q) H)
        · have e : nI (pop8 m) - nI (cnt (wouB kt (nI m) q) H) = nI (cnt (wouB kt (nI m) q) H) := by
            rw [i_eq]
            rw [i_lt] at c
            rw [i_le] at c3
            omega
          rw [if_pos c3]
          refine r_ones (d := d + 22) hm ?_
          rw [e]
          by_cases c2 : (askF kt (nI m) (nI (pop8 m)) H q).1 ≤ nI (cnt (wouB kt (nI m) q) H)
          · simp only [if_pos c2] at ih ⊢
            exact ih
          · simp only [if_neg c2] at ih ⊢
            exact ih
        · rw [if_neg c3]
          by_cases c2 : (askF kt (nI m) (nI (pop8 m)) H q).1 ≤ nI (cnt (wouB kt (nI m) q) H)
          · simp only [if_pos c2] at ih ⊢
            exact ih
          · simp only [if_neg c2] at ih ⊢
            exact ih
  · refine x_X12_ask_30 ?_
    rw [if_pos (li_yes 40 40 rfl)]
    exact ⟨_, rfl, k⟩
end RWH
