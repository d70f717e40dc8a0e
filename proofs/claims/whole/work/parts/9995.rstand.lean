/-! THE REFERENCE: as always; a draft becomes the QUEUE -/
def stV (j b : Nat) : Int32 := if j = b + 3 then 2 else if j = b + 4 then -1 else 0
section RST
variable {G : pm_G} {d : Nat} {h : pm_H}
theorem r_stands {b : Nat} {Q : pm_H → Prop} (hL : La h) (hb : b ≤ 90) (k : ∀ h', h'.1 = h.1 → h'.2.2 = h.2.2 → (∀ a, a ≠ 452 → gi h' a = gi h a) → (∀ j, gi h' 452 j = if b ≤ j ∧ j < b + 90 then stV j b else gi h 452 j) → Q h') : cv G (d + 1) m_X12_standsAsAlways [.ref 446, .int (nI b)] h Q := by
  obtain ⟨-, -, m3, m4⟩ := hL.nms
  refine cv_wp rfl (Nat.le_of_ble_eq_true rfl) rfl (x_X12_standsAsAlways ?_)
  have key := up_to (P := fun n => ∀ h1 : pm_H, h1.1 = h.1 → h1.2.2 = h.2.2 → (∀ a, a ≠ 452 → gi h1 a = gi h a) → (∀ j, gi h1 452 j = if b ≤ j ∧ j < b + n then 0 else gi h 452 j) → Wp G (m_X12_standsAsAlways, d + 1, 0, 0, fun v h1 => v = none ∧ Q h1) (0, 0) 2 [.ref 446, .int (nI b), .int (nI n)] [] h1) 90 (fun n hn ih => ?_) ?_
  · exact key h rfl rfl (fun _ _ => rfl) (fun j => by rw [if_neg (by omega)])
  · intro h1 e1 e2 e3 e4
    have g : gp h1 446 10 = 452 := by
      have : gp h1 = gp h := by show h1.2.2.2.2 = h.2.2.2.2; rw [e2]
      rw [this]; exact m3
    refine x_X12_standsAsAlways_2 ?_
    rw [if_neg (li_no 90 90 rfl hn (by decide)), nI_add, nI_1, g, cl_nI (show b + n < 2 ^ 31 by omega), e1]
    refine ⟨hL.md.1, 180, m4, vp_nI (by omega) (by decide), ?_⟩
    rintro _ rfl
    refine ih _ e1 e2 (fun a ha => (pm_u_ne _ _ _ ha).trans (e3 a ha)) (fun j => ?_)
    rw [w2_at, e4]
    by_cases c : j = b + n
    · rw [if_pos c, if_pos (by omega)]
    · rw [if_neg c]
      by_cases c2 : b ≤ j ∧ j < b + n
      · rw [if_pos c2, if_pos (by omega)]
      · rw [if_neg c2, if_neg (by omega)]
  · intro h1 e1 e2 e3 e4
    have g : gp h1 446 10 = 452 := by
      have : gp h1 = gp h := by show h1.2.2.2.2 = h.2.2.2.2; rw [e2]
      rw [this]; exact m3
    refine x_X12_standsAsAlways_2 ?_
    rw [if_pos (li_yes 90 90 rfl), show (3 : Int32) = nI 3 from rfl, show (4 : Int32) = nI 4 from rfl, nI_add, nI_add, g, cl_nI (show b + 3 < 2 ^ 31 by omega), cl_nI (show b + 4 < 2 ^ 31 by omega), e1]
    refine ⟨hL.md.1, 180, m4, vp_nI (by omega) (by decide), ?_⟩
    rintro _ rfl
    rw [show gp (si h1 452 (b + 3) 2) 446 10 = 452 from g]
    refine ⟨180, m4, vp_nI (by omega) (by decide), ?_⟩
    rintro _ rfl
    refine ⟨rfl, k _ e1 e2 (fun a ha => (pm_u_ne _ _ _ ha).trans ((pm_u_ne _ _ _ ha).trans (e3 a ha))) (fun j => ?_)⟩
    rw [w2_at, w2_at, e4]
    unfold stV
    by_cases c4 : j = b + 4
    · rw [if_pos c4, if_pos (by omega), if_neg (by omega), if_pos c4]
    · rw [if_neg c4]
      by_cases c3 : j = b + 3
      · rw [if_pos c3, if_pos (by omega), if_pos c3]
      · rw [if_neg c3]
        by_cases c2 : b ≤ j ∧ j < b + 90
        · rw [if_pos c2, if_pos c2, if_neg c3, if_neg c4]
        · rw [if_neg c2, if_neg c2]
end RST
