/-! THE REFERENCE as it is made: what it is before there is a QUEUE -/
section RC0
variable {G : pm_G} {d : Nat} {h : pm_H}
theorem r_stands0 {b : Nat} {Q : pm_H → Prop} (hM : Mk h) (hb : b ≤ 90) (k : ∀ h', h'.1 = h.1 → h'.2.2 = h.2.2 → (∀ a, a ≠ 452 → gi h' a = gi h a) → (∀ j, gi h' 452 j = if b ≤ j ∧ j < b + 90 then stV j b else gi h 452 j) → Q h') : cv G (d + 1) m_X12_standsAsAlways [.ref 446, .int (nI b)] h Q := by
  obtain ⟨hM1, -, -, m3, m4⟩ := hM
  refine cv_wp rfl (Nat.le_of_ble_eq_true rfl) rfl (x_X12_standsAsAlways ?_)
  have key := up_to (P := fun n => ∀ h1 : pm_H, h1.1 = h.1 → h1.2.2 = h.2.2 → (∀ a, a ≠ 452 → gi h1 a = gi h a) → (∀ j, gi h1 452 j = if b ≤ j ∧ j < b + n then 0 else gi h 452 j) → Wp G (m_X12_standsAsAlways, d + 1, 0, 0, fun v h1 => v = none ∧ Q h1) (0, 0) 2 [.ref 446, .int (nI b), .int (nI n)] [] h1) 90 (fun n hn ih => ?_) ?_
  · exact key h rfl rfl (fun _ _ => rfl) (fun j => by rw [if_neg (by omega)])
  · intro h1 e1 e2 e3 e4
    have g : gp h1 446 10 = 452 := by
      have : gp h1 = gp h := by show h1.2.2.2.2 = h.2.2.2.2; rw [e2]
      rw [this]; exact m3
    refine x_X12_standsAsAlways_2 ?_
    rw [if_neg (li_no 90 90 rfl hn (by decide)), nI_add, nI_1, g, cl_nI (show b + n < 2 ^ 31 by omega), e1]
    refine ⟨hM1.1, 180, m4, vp_nI (by omega) (by decide), ?_⟩
    rintro _ rfl
    refine ih _ e1 e2 (fun a ha => (pm_u_ne _ _ _ ha).trans (e3 a ha)) (fun j => ?_)
    rw [w2_at, e4]
    by_cases c : j = b + n
    · rw [if_pos c, if_pos (by omega)]
    · rw [if_neg c]
      by_cases c2 : b ≤ j ∧ j < b + n
      · rw [if_pos c2, if_pos (by omega)]
      · rw [if_neg c2, if_neg (by omega)]
  · intro h1 e1 e2 e3 e4
    have g : gp h1 446 10 = 452 := by
      have : gp h1 = gp h := by show h1.2.2.2.2 = h.2.2.2.2; rw [e2]
      rw [this]; exact m3
    refine x_X12_standsAsAlways_2 ?_
    rw [if_pos (li_yes 90 90 rfl), show (3 : Int32) = nI 3 from rfl, show (4 : Int32) = nI 4 from rfl, nI_add, nI_add, g, cl_nI (show b + 3 < 2 ^ 31 by omega), cl_nI (show b + 4 < 2 ^ 31 by omega), e1]
    refine ⟨hM1.1, 180, m4, vp_nI (by omega) (by decide), ?_⟩
    rintro _ rfl
    rw [show gp (si h1 452 (b + 3) 2) 446 10 = 452 from g]
    refine ⟨180, m4, vp_nI (by omega) (by decide), ?_⟩
    rintro _ rfl
    refine ⟨rfl, k _ e1 e2 (fun a ha => (pm_u_ne _ _ _ ha).trans ((pm_u_ne _ _ _ ha).trans (e3 a ha))) (fun j => ?_)⟩
    rw [w2_at, w2_at, e4]
    unfold stV
    by_cases c4 : j = b + 4
    · rw [if_pos c4, if_pos (by omega), if_neg (by omega), if_pos c4]
    · rw [if_neg c4]
      by_cases c3 : j = b + 3
      · rw [if_pos c3, if_pos (by omega), if_pos c3]
      · rw [if_neg c3]
        by_cases c2 : b ≤ j ∧ j < b + 90
        · rw [if_pos c2, if_pos c2, if_neg c3, if_neg c4]
        · rw [if_neg c2, if_neg c2]
/-- the first of it: no ITEM is told -/
theorem r_begins0 {Q : pm_H → Prop} (hM : Mk h) (x14 : gp h 446 14 = 455 ∧ h.1[455]? = some (1, 190)) (x20 : gp h 446 20 = 459 ∧ h.1[459]? = some (5, 2)) (hN : gi h 452 2 = 0) (k : ∀ S', RA (gi h 460) S' 0 A0 → (S' 320 = 0) → Q (si (si (si (si (si (s8 h S') 455 0 0) 446 18 0) 446 19 0) 459 0 0) 459 1 0)) : cv G (d + 4) m_X12_begins [.ref 446] h Q := by
  have hN' : gi h 452 2 = nI 0 := hN
  have it : ∀ {d : Nat} {Q : Int32 → pm_H → Prop} (S : Nat → Int32), Q (nI 0) (s8 h S) → ci G (d + 1) m_X12_items [.ref 446] (s8 h S) Q := fun {d} {Q} S q => by
    have t := r_items (G := G) (d := d) (h := h) (F := gi h 456) (P := gi h 457) (S := S) hM hN' (Q := Q) (by rw [fp_self]; exact q)
    rwa [fp_self] at t
  have itp : ∀ {d : Nat} {Q : Int32 → pm_H → Prop}, Q (nI 0) h → ci G (d + 1) m_X12_items [.ref 446] h Q := fun {d} {Q} q => by
    have t := it (d := d) (gi h 458) (Q := Q) (by rw [s8_self]; exact q)
    rwa [s8_self] at t
  have emp : ∀ {d : Nat} {Q : pm_H → Prop}, (∀ S', RA (gi h 460) S' 0 A0 → Q (s8 h S')) → cv G (d + 1) m_X12_empties [.ref 446, .int 0] h Q := fun {d} {Q} q => by
    have t := r_empties (G := G) (d := d) (h := h) (S := gi h 458) (ky := gi h 460) (b := 0) (Q := Q) hM.1 (by decide) (fun S' hA _ => q S' hA)
    rwa [s8_self] at t
  refine cv_wp rfl (Nat.le_of_ble_eq_true rfl) rfl (x_X12_begins (x_X12_begins_2 ⟨hM.1.1, itp (d := d + 2) ?_⟩))
  rw [if_pos (show nI 0 ≤ 0 from Int32.le_refl _)]
  refine ⟨hM.1.1, cv_wp rfl (Nat.le_of_ble_eq_true rfl) rfl (x_X12_starts ⟨hM.1.1, emp (d := d + 1) (fun S' hA => x_X12_starts_7 ⟨hM.1.1, it (d := d + 1) S' ?_⟩)⟩)⟩
  rw [if_pos (show nI 0 ≤ 0 from Int32.le_refl _)]
  refine ⟨rfl, ?_⟩
  have g17 : gp (s8 h S') 446 17 = 458 := hM.1.2.1
  rw [g17, show (320 : Int32).toNatClampNeg = 320 from rfl]
  refine ⟨hM.1.1, 4485, hM.1.2.2, vp_nI (k := 320) (by decide) (by decide), ?_⟩
  rintro _ rfl
  rw [show gp (si (s8 h S') 458 320 0) 446 14 = 455 from x14.1, show (0 : Int32).toNatClampNeg = 0 from rfl]
  refine ⟨190, x14.2, vp_nI (k := 0) (by decide) (by decide), ?_⟩
  rintro _ rfl _ rfl _ rfl
  rw [show gp (si (si (si (si (s8 h S') 458 320 0) 455 0 0) 446 18 0) 446 19 0) 446 20 = 459 from x20.1]
  refine ⟨2, x20.2, vp_nI (k := 0) (by decide) (by decide), ?_⟩
  rintro _ rfl
  rw [show gp (si (si (si (si (si (s8 h S') 458 320 0) 455 0 0) 446 18 0) 446 19 0) 459 0 (vp_nar .boolean 0)) 446 20 = 459 from x20.1]
  refine ⟨2, x20.2, vp_nI (k := 1) (by decide) (by decide), ?_⟩
  rintro _ rfl
  rw [show vp_nar .boolean 0 = 0 from rfl, show (1 : Int32).toNatClampNeg = 1 from rfl, s8_si]
  refine ⟨rfl, k _ (hA.move (a := 0) (c := 0) (fun i hi => ?_)) ?_⟩
  · rw [Nat.zero_add]; exact up1_ne _ _ (by omega)
  · exact up1_at _ _ _
end RC0
