/-! KEYS told; sums of KEYS as they come -/
def KyOK (h : pm_H) (N : Nat) (ks : Nat → Nat) : Prop := ∀ t, t < N → gi h 460 t = nI (ks t) ∧ gf h 16 t = UInt32.ofNat (ks t) ∧ Okx 110 140 (ks t)
theorem KyOK.agr {h : pm_H} {N : Nat} {ks : Nat → Nat} (hK : KyOK h N ks) : Agr N (kLt (gf h 16)) (rLt (gi h 460)) ∧ Agr N (ahC (gf h 16)) (ahR (gi h 460)) := by
  have key : Agr N (kLt (gf h 16)) (rLt (gi h 460)) := by
    intro a b ha hb
    obtain ⟨a1, a2, a3⟩ := hK a ha
    obtain ⟨b1, b2, b3⟩ := hK b hb
    unfold kLt rLt
    rw [a1, a2, b1, b2, decide_eq_decide, (fcmp_s (a3.mono (by decide) (by decide)) (b3.mono (by decide) (by decide))).1, i_lt, nI_toInt (a3.i31 (by decide)), nI_toInt (b3.i31 (by decide))]
    omega
  refine ⟨key, fun a b ha hb => ?_⟩
  obtain ⟨a1, a2, a3⟩ := hK a ha
  obtain ⟨b1, b2, b3⟩ := hK b hb
  unfold ahC ahR
  rw [key a b ha hb, a1, a2, b1, b2]
  congr 2
  rw [decide_eq_decide, (fcmp_s (a3.mono (by decide) (by decide)) (b3.mono (by decide) (by decide))).2.1, nI_inj (a3.i31 (by decide)) (b3.i31 (by decide))]
def sumS (ks : Nat → Nat) (l : List Nat) : Nat → Nat
  | 0 => 0
  | n + 1 => addS (sumS ks l n) (ks (l.getD n 0))
theorem sum_ok {ks : Nat → Nat} {l : List Nat} {N : Nat} (hK : ∀ t, t < N → Okx 110 140 (ks t)) (hl : ∀ t ∈ l, t < N) : ∀ n, n ≤ l.length → n ≤ 20 → Okx 110 (140 + 2 * n) (sumS ks l n)
  | 0, _, _ => Or.inl rfl
  | n + 1, hn, h20 => by
    have ih := sum_ok hK hl n (by omega) (by omega)
    have e : l.getD n 0 = l[n] := by simp [List.getD_eq_getElem?_getD, show n < l.length by omega]
    have kt := hK (l.getD n 0) (by rw [e]; exact hl _ (List.getElem_mem _))
    exact (fadd_s ih (kt.mono (Nat.le_refl _) (by omega)) (by decide) (by omega)).2
section SUM
variable {G : pm_G} {d : Nat} {h : pm_H}
theorem getD_mem {l : List Nat} {N n : Nat} (hl : ∀ t ∈ l, t < N) (hn : n < l.length) : l.getD n 0 < N := by
  have e : l.getD n 0 = l[n] := by simp [List.getD_eq_getElem?_getD, hn]
  rw [e]; exact hl _ (List.getElem_mem _)
theorem s_sum {N : Nat} {ks : Nat → Nat} {l : List Nat} {Q : UInt32 → pm_H → Prop} (hL : La h) (hK : KyOK h N ks) (hN : N ≤ 20) (hO : Ord (gi h) l) (hll : l.length ≤ 20) (hl : ∀ t ∈ l, t < N) (k : Q (UInt32.ofNat (sumS ks l l.length)) h) : cf G (d + 2) m_X8_sum [.ref 90] h Q := by
  obtain ⟨t0, t1, t2, t3, t4, t5, t6, t7, t8, t9⟩ := hL.tri
  have hP := hL.lw.1
  refine cf_wp rfl (Nat.le_of_ble_eq_true rfl) rfl (x_X8_sum ?_)
  refine up_to (P := fun n => Wp G (m_X8_sum, d + 2, 0, 0, fun v h1 => ∃ r, v = some (.float r) ∧ Q r h1) (0, 0) 4 [.ref 90, .float (UInt32.ofNat (sumS ks l n)), .int (nI n)] [] h) l.length (fun n hn ih => ?_) ?_
  · refine x_X8_sum_4 ⟨t0, ?_⟩
    rw [hO.1, if_neg (show ¬ nI l.length ≤ nI n from nI_nlen hn (by omega)), nI_1, t1]
    refine s_order (d := d) hL hO hll hn ⟨hP.1, s_keyOf hP ?_⟩
    have gN := getD_mem hl hn
    obtain ⟨a1, a2, a3⟩ := hK _ gN
    have so := sum_ok (fun t ht => (hK t ht).2.2) hl n (by omega) (by omega)
    obtain ⟨f1, f2⟩ := fadd_s so (a3.mono (Nat.le_refl _) (by omega)) (by decide) (by omega)
    rw [kyf_in (by omega), a2, f1]
    exact ⟨f2.num (by omega), ih⟩
  · refine x_X8_sum_4 ⟨t0, ?_⟩
    rw [hO.1, if_pos (show nI l.length ≤ nI l.length from Int32.le_refl _)]
    exact ⟨_, rfl, k⟩
theorem r_worthOf {N : Nat} {ks : Nat → Nat} {l : List Nat} {S C F P : Nat → Int32} {Q : Int32 → pm_H → Prop} (hL : La h) (hK : KyOK h N ks) (hN : N ≤ 20) (hO : OrR C l) (hll : l.length ≤ 20) (hl : ∀ t ∈ l, t < N) (k : Q (nI (sumS ks l l.length)) (s8 (fp (co h C) F P) S)) : ci G (d + 4) m_X12_worthOf [.ref 446, .int (nI l.length)] (s8 (fp (co h C) F P) S) Q := by
  have g22 : gp (s8 (fp (co h C) F P) S) 446 22 = 461 := hL.com.1
  have g21 : gp (s8 (fp (co h C) F P) S) 446 21 = 460 := hL.mk.2.1
  refine ci_wp rfl (Nat.le_of_ble_eq_true rfl) rfl (x_X12_worthOf ?_)
  refine up_to (P := fun n => Wp G (m_X12_worthOf, d + 4, 0, 0, fun v h1 => ∃ r, v = some (.int r) ∧ Q r h1) (0, 0) 4 [.ref 446, .int (nI l.length), .int (nI (sumS ks l n)), .int (nI n)] [] (s8 (fp (co h C) F P) S)) l.length (fun n hn ih => ?_) ?_
  · refine x_X12_worthOf_4 ?_
    have gN := getD_mem hl hn
    obtain ⟨a1, a2, a3⟩ := hK _ gN
    have so := sum_ok (fun t ht => (hK t ht).2.2) hl n (by omega) (by omega)
    rw [if_neg (show ¬ nI l.length ≤ nI n from nI_nlen hn (by omega)), nI_1, g22, g21, sfc, sfk h S C F P (by decide) (by decide) (by decide) (by decide), cl_nI (show n < 2 ^ 31 by omega), hO n hn, cl_nI (show l.getD n 0 < 2 ^ 31 by omega), a1]
    exact ⟨hL.md.1, 20, hL.com.2, vp_nI (by omega) (by decide), 20, hL.mk.2.2.1, vp_nI (by omega) (by decide), r_adds (d := d) so (a3.mono (Nat.le_refl _) (by omega)) (by decide) (by omega) ih⟩
  · refine x_X12_worthOf_4 ?_
    rw [if_pos (show nI l.length ≤ nI l.length from Int32.le_refl _)]
    exact ⟨_, rfl, k⟩
theorem r_keyBy {F P S : Nat → Int32} {t k n1 n2 : Nat} {Q : Int32 → pm_H → Prop} (hM : Mk h) (ht : t < 20) (h0 : gi h 452 (7 + 4 * t) = nI k) (h1 : gi h 452 (7 + 4 * t + 1) = nI n1) (h2 : gi h 452 (7 + 4 * t + 2) = nI n2) (hk : k < 4) (hn1 : n1 < 1024) (hn2 : n2 < 128) (hn0 : n2 ≠ 0) (w : Q (nI (keyS k n1 n2)) (s8 (fp h F P) S)) : ci G (d + 4) m_X12_keyBy [.ref 446, .int (nI t)] (s8 (fp h F P) S) Q := by
  obtain ⟨-, q, hb⟩ := quo_ok hn1 hn2 hn0
  obtain ⟨a1, a2⟩ := who_ok hn1
  obtain ⟨b1, b2⟩ := who_ok2 hn2 hn0
  refine ci_wp rfl (Nat.le_of_ble_eq_true rfl) rfl (x_X12_keyBy ⟨hM.1.1, r_itemOf (t := t) (w := 1) (d := d + 2) hM (by omega) ?_⟩)
  rw [h1]
  refine r_ofWhole (d := d) (by omega) ⟨hM.1.1, r_itemOf (t := t) (w := 2) (d := d + 2) hM (by omega) ?_⟩
  rw [h2]
  refine r_ofWhole (d := d) (by omega) (r_divides (d := d) (a1.mono (by decide) (by decide)) (b1.mono (by decide) (by decide)) b2 hb ⟨hM.1.1, r_itemOf (t := t) (w := 0) (d := d + 2) hM (by omega) ?_⟩)
  rw [show 7 + 4 * t + 0 = 7 + 4 * t from rfl, h0]
  have nk1 : nI k = 1 ↔ k = 1 := nI_inj (b := 1) (by omega) (by omega)
  have nk2 : nI k = 2 ↔ k = 2 := nI_inj (b := 2) (by omega) (by omega)
  have nk3 : nI k = 3 ↔ k = 3 := nI_inj (b := 3) (by omega) (by omega)
  unfold keyS at w
  show if nI k = 1 then _ else _
  by_cases c1 : k = 1
  · rw [if_pos (nk1.mpr c1)]
    rw [if_pos c1] at w
    have hb : quoS n1 n2 ≠ 0 → halfS ≠ 0 → 130 ≤ sgE (quoS n1 n2) + sgE halfS ∧ sgE (quoS n1 n2) + sgE halfS ≤ 370 := fun z _ => by
      have := (q.sg z (by decide) (by decide)).2
      rw [ok_half.2.2.1]; omega
    exact r_multiplies (d := d) (x := quoS n1 n2) (y := halfS) (q.mono (by decide) (by decide)) (ok_half.1.mono (by decide) (by decide)) hb ⟨_, rfl, w⟩
  · rw [if_neg (fun z => c1 (nk1.mp z))]
    rw [if_neg c1] at w
    by_cases c2 : k = 2
    · rw [if_pos (nk2.mpr c2)]
      rw [if_pos c2] at w
      exact r_adds (d := d) (x := quoS n1 n2) (y := tenS) q (ok_ten.1.mono (by decide) (by decide)) (by decide) (by decide) ⟨_, rfl, w⟩
    · rw [if_neg (fun z => c2 (nk2.mp z))]
      rw [if_neg c2] at w
      by_cases c3 : k = 3
      · rw [if_pos (nk3.mpr c3)]
        rw [if_pos c3] at w
        have o1 : Okx 120 137 oneS := ok_one.1.mono (by decide) (by decide)
        have s := (fadd_s q o1 (by decide) (by decide)).2
        have s0 := addS_pos q o1 (by decide) (by decide) ok_one.2.1
        have sb := (s.sg s0 (by decide) (by decide)).2
        exact r_adds (d := d) (x := quoS n1 n2) (y := oneS) q o1 (by decide) (by decide) (r_divides (d := d) (x := oneS) (ok_one.1.mono (by decide) (by decide)) (s.mono (by decide) (by decide)) s0 (fun _ => by rw [ok_one.2.2.1]; omega) ⟨_, rfl, w⟩)
      · rw [if_neg (fun z => c3 (nk3.mp z))]
        rw [if_neg c3] at w
        exact ⟨_, rfl, w⟩
end SUM
