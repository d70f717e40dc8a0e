/-! A QUEUE: the reference -/
section RQU
variable {G : pm_G} {d : Nat} {h : pm_H} {s : Sta} {w : Nat} {P : Pl}
def FrG (h h' : pm_H) : Prop := h'.1 = h.1 ∧ (∀ a, a ≠ 446 → a ≠ 455 → a ≠ 456 → a ≠ 457 → a ≠ 458 → a ≠ 459 → a ≠ 460 → gi h' a = gi h a) ∧ (∀ k, k ≠ 18 → k ≠ 19 → gi h' 446 k = gi h 446 k) ∧ h'.2.2 = h.2.2
theorem si_ne {a k b : Nat} {v : Int32} (hb : b ≠ a) : gi (si h a k v) b = gi h b := pm_u_ne _ _ _ hb
theorem r_begins {Q : pm_H → Prop} (hL : La h) (hP : PlR h 0 0 0 P) (hO : PlO P) (hB : PlB P) (k : ∀ h', FrG h h' → KyR h' P → RA (gi h' 460) (gi h' 458) 0 (tellF (ltP P) (tvP P) (hmP P) (pN P)) → gi h' 458 320 = 0 → gi h' 455 0 = 0 → gi h' 446 18 = 0 → gi h' 446 19 = 0 → gi h' 459 0 = 0 → gi h' 459 1 = 0 → Q h') : cv G (d + 24) m_X12_begins [.ref 446] h Q := by
  have n20 : pN P ≤ 20 := hO.2.2.2.2.2.1
  have hN : gi h 452 2 = nI (pN P) := hP.2.2.1
  have key := up_to (P := fun n => ∀ h1 : pm_H, h1.1 = h.1 → (∀ a, a ≠ 460 → gi h1 a = gi h a) → h1.2.2 = h.2.2 → (∀ t, t < n → gi h1 460 t = kyP P t) → Wp G (m_X12_begins, d + 24, 0, 0, fun v h1 => v = none ∧ Q h1) (0, 0) 2 [.ref 446, .int (nI n)] [] h1) (pN P) (fun n hn ih => ?_) ?_
  · exact cv_wp rfl (Nat.le_of_ble_eq_true rfl) rfl (x_X12_begins (key h rfl (fun _ _ => rfl) rfl (fun t ht => absurd ht (Nat.not_lt_zero t))))
  · intro h1 e1 e2 e3 e4
    have hL1 : La h1 := ⟨e1.trans hL.1, fun a k hx => by show h1.2.2.2.2 a k = _; rw [e3]; exact hL.2 a k hx⟩
    have e52 : gi h1 452 = gi h 452 := e2 452 (by decide)
    have ti := r_items (G := G) (d := d + 22) (F := gi h1 456) (P := gi h1 457) (S := gi h1 458) (N := pN P) (Q := fun r1 h2 => if r1 ≤ nI n then (h2.1[446]? = some (0, 11)) ∧ cv G (d + 23) m_X12_starts [.ref 446, .int 0] h2 (fun h4 => (h4.1[446]? = some (0, 11)) ∧ ∃ n5 : Nat, h4.1[gp h4 446 17]? = some (1, n5) ∧ (vp_in 320 n5) ∧ ∀ h6 : pm_H, h6 = si h4 (gp h4 446 17) (320 : Int32).toNatClampNeg 0 → ∃ n7 : Nat, h4.1[gp h6 446 14]? = some (1, n7) ∧ (vp_in 0 n7) ∧ ∀ h8 : pm_H, h8 = si h6 (gp h6 446 14) (0 : Int32).toNatClampNeg 0 → ∀ h9 : pm_H, h9 = si h8 446 18 0 → ∀ h10 : pm_H, h10 = si h9 446 19 0 → ∃ n11 : Nat, h4.1[gp h10 446 20]? = some (5, n11) ∧ (vp_in 0 n11) ∧ ∀ h12 : pm_H, h12 = si h10 (gp h10 446 20) (0 : Int32).toNatClampNeg (vp_nar .boolean 0) → ∃ n13 : Nat, h4.1[gp h12 446 20]? = some (5, n13) ∧ (vp_in 1 n13) ∧ ∀ h14 : pm_H, h14 = si h12 (gp h12 446 20) (1 : Int32).toNatClampNeg (vp_nar .boolean 0) → (none : Option Value) = none ∧ Q h14) else (h2.1[446]? = some (0, 11)) ∧ ci G (d + 23) m_X12_keyBy [.ref 446, .int (nI n)] h2 fun r15 h16 => ∃ n17 : Nat, h16.1[gp h2 446 21]? = some (1, n17) ∧ (vp_in (nI n) n17) ∧ ∀ h18 : pm_H, h18 = si h16 (gp h2 446 21) (nI n : Int32).toNatClampNeg r15 → Wp G (m_X12_begins, d + 23 + 1, 0, 0, fun v h1 => v = none ∧ Q h1) (0, 0) 2 [.ref 446, .int (nI n + 1)] [] h18) hL1.mk (by rw [e52]; exact hN) (by
      rw [nf, if_neg (show ¬ nI (pN P) ≤ nI n from nI_nlen hn (by omega))]
      refine ⟨hL1.md.1, ?_⟩
      obtain ⟨v1, v2, v3, v4⟩ := hP.2.2.2.2.2.2.2.2.1 n hn
      rw [Nat.zero_add] at v1 v2 v3
      obtain ⟨w1, w2, w3, w4, -⟩ := hO.item hn
      have tk := r_keyBy (G := G) (d := d + 19) (h := h1) (F := gi h1 456) (P := gi h1 457) (S := gi h1 458) (t := n) (k := ((pI P).getD n itO).2.1) (n1 := ((pI P).getD n itO).2.2.1) (n2 := ((pI P).getD n itO).2.2.2.1) (Q := fun r15 h16 => ∃ n17 : Nat, h16.1[gp h1 446 21]? = some (1, n17) ∧ (vp_in (nI n) n17) ∧ ∀ h18 : pm_H, h18 = si h16 (gp h1 446 21) (nI n : Int32).toNatClampNeg r15 → Wp G (m_X12_begins, d + 23 + 1, 0, 0, fun v h1 => v = none ∧ Q h1) (0, 0) 2 [.ref 446, .int (nI n + 1)] [] h18) hL1.mk (by omega) (by rw [e52]; exact v1) (by rw [e52]; exact v2) (by rw [e52]; exact v3) w1 (by omega) (by omega) (by omega) (by
        rw [nf, hL1.mk.2.1, cl_nI (show n < 2 ^ 31 by omega), nI_1]
        refine ⟨20, hL1.mk.2.2.1, vp_nI (by omega) (by decide), ?_⟩
        rintro _ rfl
        refine ih _ e1 (fun a ha => (pm_u_ne _ _ _ ha).trans (e2 a ha)) e3 (fun t ht => ?_)
        show pm_u (gi h1) 460 n _ 460 t = _
        rw [pm_u_at]
        unfold pm_ui
        by_cases q : t = n
        · rw [if_pos q, q]; rfl
        · rw [if_neg q]; exact e4 t (by omega))
      rwa [nf] at tk)
    rw [nf] at ti
    exact x_X12_begins_2 ⟨hL1.md.1, ti⟩
  · intro h1 e1 e2 e3 e4
    have hL1 : La h1 := ⟨e1.trans hL.1, fun a k hx => by show h1.2.2.2.2 a k = _; rw [e3]; exact hL.2 a k hx⟩
    have e52 : gi h1 452 = gi h 452 := e2 452 (by decide)
    have hK : KyR h1 P := e4
    have ti := r_items (G := G) (d := d + 22) (F := gi h1 456) (P := gi h1 457) (S := gi h1 458) (N := pN P) (Q := fun r1 h2 => if r1 ≤ nI (pN P) then (h2.1[446]? = some (0, 11)) ∧ cv G (d + 23) m_X12_starts [.ref 446, .int 0] h2 (fun h4 => (h4.1[446]? = some (0, 11)) ∧ ∃ n5 : Nat, h4.1[gp h4 446 17]? = some (1, n5) ∧ (vp_in 320 n5) ∧ ∀ h6 : pm_H, h6 = si h4 (gp h4 446 17) (320 : Int32).toNatClampNeg 0 → ∃ n7 : Nat, h4.1[gp h6 446 14]? = some (1, n7) ∧ (vp_in 0 n7) ∧ ∀ h8 : pm_H, h8 = si h6 (gp h6 446 14) (0 : Int32).toNatClampNeg 0 → ∀ h9 : pm_H, h9 = si h8 446 18 0 → ∀ h10 : pm_H, h10 = si h9 446 19 0 → ∃ n11 : Nat, h4.1[gp h10 446 20]? = some (5, n11) ∧ (vp_in 0 n11) ∧ ∀ h12 : pm_H, h12 = si h10 (gp h10 446 20) (0 : Int32).toNatClampNeg (vp_nar .boolean 0) → ∃ n13 : Nat, h4.1[gp h12 446 20]? = some (5, n13) ∧ (vp_in 1 n13) ∧ ∀ h14 : pm_H, h14 = si h12 (gp h12 446 20) (1 : Int32).toNatClampNeg (vp_nar .boolean 0) → (none : Option Value) = none ∧ Q h14) else (h2.1[446]? = some (0, 11)) ∧ ci G (d + 23) m_X12_keyBy [.ref 446, .int (nI (pN P))] h2 fun r15 h16 => ∃ n17 : Nat, h16.1[gp h2 446 21]? = some (1, n17) ∧ (vp_in (nI (pN P)) n17) ∧ ∀ h18 : pm_H, h18 = si h16 (gp h2 446 21) (nI (pN P) : Int32).toNatClampNeg r15 → Wp G (m_X12_begins, d + 23 + 1, 0, 0, fun v h1 => v = none ∧ Q h1) (0, 0) 2 [.ref 446, .int (nI (pN P) + 1)] [] h18) hL1.mk (by rw [e52]; exact hN) (by
      rw [nf, if_pos (show nI (pN P) ≤ nI (pN P) from Int32.le_refl _)]
      refine ⟨hL1.md.1, ?_⟩
      have gr : GRc G (d + 20) h1 (tvP P) := gr_of (d := d + 17) hL1 (by rw [e52]; exact hP.2.2.2.1) (hP.2.2.2.2.2.2.2.2.2.of e52 (e2 453 (by decide))) hO hB
      have ts := r_starts (G := G) (d := d) (h := h1) (F := gi h1 456) (P := gi h1 457) (S := gi h1 458) (b := 0) (N := pN P) (hm := hmP P) (tvf := tvP P) (Q := fun h4 => (h4.1[446]? = some (0, 11)) ∧ ∃ n5 : Nat, h4.1[gp h4 446 17]? = some (1, n5) ∧ (vp_in 320 n5) ∧ ∀ h6 : pm_H, h6 = si h4 (gp h4 446 17) (320 : Int32).toNatClampNeg 0 → ∃ n7 : Nat, h4.1[gp h6 446 14]? = some (1, n7) ∧ (vp_in 0 n7) ∧ ∀ h8 : pm_H, h8 = si h6 (gp h6 446 14) (0 : Int32).toNatClampNeg 0 → ∀ h9 : pm_H, h9 = si h8 446 18 0 → ∀ h10 : pm_H, h10 = si h9 446 19 0 → ∃ n11 : Nat, h4.1[gp h10 446 20]? = some (5, n11) ∧ (vp_in 0 n11) ∧ ∀ h12 : pm_H, h12 = si h10 (gp h10 446 20) (0 : Int32).toNatClampNeg (vp_nar .boolean 0) → ∃ n13 : Nat, h4.1[gp h12 446 20]? = some (5, n13) ∧ (vp_in 1 n13) ∧ ∀ h14 : pm_H, h14 = si h12 (gp h12 446 20) (1 : Int32).toNatClampNeg (vp_nar .boolean 0) → (none : Option Value) = none ∧ Q h14) hL1.mk (by rw [e52]; exact hN) n20 (by decide) (tvP_pos _) gr (fun t ht => ⟨hmP_lt hO ht, by
          have := (hP.2.2.2.2.2.2.2.2.1 t ht).2.2.2
          rw [Nat.zero_add] at this
          rw [e52]; exact this⟩) (fun S' F' P' hA hZ => by
        rw [(tellF_agr hK.agr.1 _ (Nat.le_refl _) (fun t ht => hmP_lt hO ht)).1] at hA
        have g17 : gp (s8 (fp h1 F' P') S') 446 17 = 458 := hL1.md.2.1
        rw [g17, show (320 : Int32).toNatClampNeg = 320 from rfl]
        refine ⟨hL1.md.1, 4485, hL1.md.2.2, vp_nI (k := 320) (by decide) (by decide), ?_⟩
        rintro _ rfl
        have g14 : gp (si (s8 (fp h1 F' P') S') 458 320 0) 446 14 = 455 := hL1.ln.1
        rw [g14, show (0 : Int32).toNatClampNeg = 0 from rfl]
        refine ⟨190, hL1.ln.2, vp_nI (k := 0) (by decide) (by decide), ?_⟩
        rintro _ rfl _ rfl _ rfl
        have g20 : gp (si (si (si (si (s8 (fp h1 F' P') S') 458 320 0) 455 0 0) 446 18 0) 446 19 0) 446 20 = 459 := hL1.mkd.1
        rw [g20]
        refine ⟨2, hL1.mkd.2, vp_nI (k := 0) (by decide) (by decide), ?_⟩
        rintro _ rfl
        have g20' : gp (si (si (si (si (si (s8 (fp h1 F' P') S') 458 320 0) 455 0 0) 446 18 0) 446 19 0) 459 0 (vp_nar .boolean 0)) 446 20 = 459 := hL1.mkd.1
        rw [g20']
        refine ⟨2, hL1.mkd.2, vp_nI (k := 1) (by decide) (by decide), ?_⟩
        rintro _ rfl
        rw [show vp_nar .boolean 0 = 0 from rfl, show (1 : Int32).toNatClampNeg = 1 from rfl]
        have gA : ∀ a, a ≠ 446 → a ≠ 455 → a ≠ 456 → a ≠ 457 → a ≠ 458 → a ≠ 459 → gi (si (si (si (si (si (si (s8 (fp h1 F' P') S') 458 320 0) 455 0 0) 446 18 0) 446 19 0) 459 0 0) 459 1 0) a = gi h1 a := fun a x1 x2 x3 x4 x5 x6 => (pm_u_ne _ _ _ x6).trans ((pm_u_ne _ _ _ x6).trans ((pm_u_ne _ _ _ x1).trans ((pm_u_ne _ _ _ x1).trans ((pm_u_ne _ _ _ x2).trans ((pm_u_ne _ _ _ x5).trans (sfgi _ _ _ _ x3 x4 x5))))))
        have gS : gi (si (si (si (si (si (si (s8 (fp h1 F' P') S') 458 320 0) 455 0 0) 446 18 0) 446 19 0) 459 0 0) 459 1 0) 458 = up1 S' 320 0 := by
          have a1 : gi (si (si (si (si (si (si (s8 (fp h1 F' P') S') 458 320 0) 455 0 0) 446 18 0) 446 19 0) 459 0 0) 459 1 0) 458 = gi (si (s8 (fp h1 F' P') S') 458 320 0) 458 := (si_ne (by decide)).trans ((si_ne (by decide)).trans ((si_ne (by decide)).trans ((si_ne (by decide)).trans (si_ne (by decide)))))
          rw [a1, up_458, s8_gi]
        have g46 : ∀ j, gi (si (si (si (si (si (si (s8 (fp h1 F' P') S') 458 320 0) 455 0 0) 446 18 0) 446 19 0) 459 0 0) 459 1 0) 446 j = if j = 19 then 0 else if j = 18 then 0 else gi h1 446 j := fun j => by
          have a1 : gi (si (si (si (si (si (si (s8 (fp h1 F' P') S') 458 320 0) 455 0 0) 446 18 0) 446 19 0) 459 0 0) 459 1 0) 446 = gi (si (si (si (si (s8 (fp h1 F' P') S') 458 320 0) 455 0 0) 446 18 0) 446 19 0) 446 := (si_ne (by decide)).trans (si_ne (by decide))
          have a2 : gi (si (si (s8 (fp h1 F' P') S') 458 320 0) 455 0 0) 446 = gi h1 446 := (si_ne (by decide)).trans ((si_ne (by decide)).trans (sfgi _ _ _ _ (by decide) (by decide) (by decide)))
          rw [a1, si_66, si_66, a2]
        have g55 : gi (si (si (si (si (si (si (s8 (fp h1 F' P') S') 458 320 0) 455 0 0) 446 18 0) 446 19 0) 459 0 0) 459 1 0) 455 0 = 0 := by
          have a1 : gi (si (si (si (si (si (si (s8 (fp h1 F' P') S') 458 320 0) 455 0 0) 446 18 0) 446 19 0) 459 0 0) 459 1 0) 455 = gi (si (si (s8 (fp h1 F' P') S') 458 320 0) 455 0 0) 455 := (si_ne (by decide)).trans ((si_ne (by decide)).trans ((si_ne (by decide)).trans (si_ne (by decide))))
          rw [a1]
          show pm_u (gi (si (s8 (fp h1 F' P') S') 458 320 0)) 455 0 0 455 0 = 0
          rw [pm_u_at]; exact if_pos rfl
        have g59 : ∀ j, gi (si (si (si (si (si (si (s8 (fp h1 F' P') S') 458 320 0) 455 0 0) 446 18 0) 446 19 0) 459 0 0) 459 1 0) 459 j = if j = 1 then 0 else if j = 0 then 0 else gi (si (si (si (si (s8 (fp h1 F' P') S') 458 320 0) 455 0 0) 446 18 0) 446 19 0) 459 j := fun j => by
          show pm_u (gi (si (si (si (si (si (s8 (fp h1 F' P') S') 458 320 0) 455 0 0) 446 18 0) 446 19 0) 459 0 0)) 459 1 0 459 j = _
          rw [pm_u_at]
          unfold pm_ui
          have : gi (si (si (si (si (si (s8 (fp h1 F' P') S') 458 320 0) 455 0 0) 446 18 0) 446 19 0) 459 0 0) 459 j = if j = 0 then 0 else gi (si (si (si (si (s8 (fp h1 F' P') S') 458 320 0) 455 0 0) 446 18 0) 446 19 0) 459 j := by
            show pm_u (gi (si (si (si (si (s8 (fp h1 F' P') S') 458 320 0) 455 0 0) 446 18 0) 446 19 0)) 459 0 0 459 j = _
            rw [pm_u_at]; rfl
          rw [this]
        have e60 := gA 460 (by decide) (by decide) (by decide) (by decide) (by decide) (by decide)
        refine ⟨rfl, k _ ⟨e1, fun a x1 x2 x3 x4 x5 x6 x7 => (gA a x1 x2 x3 x4 x5 x6).trans (e2 a x7), fun j x1 x2 => ?_, e3⟩ (fun t ht => (congrFun e60 t).trans (hK t ht)) ?_ ?_ g55 ?_ ?_ ?_ ?_⟩
        · rw [g46, if_neg x2, if_neg x1]; exact congrFun (e2 446 (by decide)) j
        · rw [e60, gS]
          exact hA.move (a := 0) (c := 0) (fun x hx => up1_ne _ _ (by omega))
        · rw [gS, up1_at]
        · rw [g46, if_neg (by decide), if_pos rfl]
        · rw [g46, if_pos rfl]
        · rw [g59, if_neg (by decide), if_pos rfl]
        · rw [g59, if_pos rfl])
      rwa [nf] at ts)
    rw [nf] at ti
    exact x_X12_begins_2 ⟨hL1.md.1, ti⟩
theorem PlR_low {h' : pm_H} (hP : PlR h 0 0 0 P) (hO : PlO P) (e2 : ∀ j, j < 90 → gi h' 452 j = gi h 452 j) (e3 : ∀ j, j < 1100 → gi h' 453 j = gi h 453 j) (e4 : ∀ j, j < 25 → gj h' 454 j = gj h 454 j) : PlR h' 0 0 0 P := by
  obtain ⟨p1, p2, p3, p4, p5, p6, p7, p8, p9, p10⟩ := hP
  have nS : (pSn P).length ≤ 2 := by unfold pSn; rw [List.length_map]; exact hO.2.2.2.2.1
  have nI' : (pIn P).length ≤ 20 := by unfold pIn; rw [List.length_map]; exact hO.2.2.2.2.2.1
  have nH := hO.2.2.2.1
  have nS' := hO.2.2.2.2.1
  have nI2 := hO.2.2.2.2.2.1
  have nL := hO.2.2.2.2.2.2.2.2.1
  refine ⟨(e2 0 (by decide)).trans p1, (e2 1 (by decide)).trans p2, (e2 2 (by decide)).trans p3, (e2 3 (by decide)).trans p4, fun j hj => (e4 _ (by omega)).trans (p5 j hj), fun j hj => (e4 _ (by omega)).trans (p6 j hj), fun j hj => (e4 _ (by omega)).trans (p7 j hj), fun j hj => (e2 _ (by omega)).trans (p8 j hj), fun j hj => ?_, ?_⟩
  · obtain ⟨a, b, c, d⟩ := p9 j hj
    exact ⟨(e2 _ (by omega)).trans a, (e2 _ (by omega)).trans b, (e2 _ (by omega)).trans c, (e2 _ (by omega)).trans d⟩
  · unfold LwR at p10 ⊢
    by_cases c : pLw P = []
    · rw [if_pos c] at p10 ⊢; exact (e2 _ (by decide)).trans p10
    · rw [if_neg c] at p10 ⊢
      exact ⟨(e2 _ (by decide)).trans p10.1, p10.2.1.shift (fun j hj => e3 _ (by omega)), (e3 _ (by omega)).trans p10.2.2⟩
/-- what stands when the text is cut, and a part of it read -/
theorem InvR_bad {h0 h' : pm_H} (i : InvR h0 s) (ok : okSta s w) (e1 : h'.1 = h0.1) (eg : ∀ a, a = 458 ∨ a = 459 ∨ a = 460 → gi h' a = gi h0 a) (e55 : ∀ j, j < 95 → gi h' 455 j = gi h0 455 j) (ef : ∀ k, k = 18 ∨ k = 19 → gi h' 446 k = gi h0 446 k) (z2 : gi h' 446 2 = 0) (p2 : ∀ j, j < 90 → gi h' 452 j = gi h0 452 j) (p3 : ∀ j, j < 1100 → gi h' 453 j = gi h0 453 j) (p4 : ∀ j, j < 25 → gj h' 454 j = gj h0 454 j) (ew : gj h' 451 = gj h0 451) (ep : gp h' = gp h0) : InvR h' (stTx s []) := by
  obtain ⟨i1, i2, ⟨i3, i4⟩, i5, i6, i7, i8, i9, i10, i11, i12⟩ := i
  have l30 := ok.wk.2.1
  refine ⟨⟨e1.trans i1.1, fun a k hx => by rw [ep]; exact i1.2 a k hx⟩, fun v hv => (congrFun ew v).trans (i2 v hv), ⟨fun j hj => absurd hj (Nat.not_lt_zero j), z2⟩, PlR_low i5 ok.pl p2 p3 p4, fun t ht => (congrFun (eg 460 (by omega)) t).trans (i6 t ht), ⟨(e55 0 (by decide)).trans i7.1, fun j q hq => ?_⟩, ?_, ⟨(ef 18 (by omega)).trans i9.1, ?_⟩, ?_, (ef 19 (by omega)).trans i11, ?_⟩
  · have hj := (List.getElem?_eq_some_iff.mp hq).1
    have hj : j < (sW s).length := hj
    obtain ⟨a, b, c⟩ := i7.2 j q hq
    exact ⟨(e55 _ (by omega)).trans a, (e55 _ (by omega)).trans b, fun z => (e55 _ (by omega)).trans (c z)⟩
  · rw [eg 460 (by omega), eg 458 (by omega)]; exact i8
  · rw [eg 460 (by omega), eg 458 (by omega)]; exact i9.2
  · rw [eg 458 (by omega)]; exact i10
  · intro m hm
    rw [eg 460 (by omega), eg 458 (by omega), eg 459 (by omega)]
    exact i12 m hm
theorem q_queue {Q : Int32 → pm_H → Prop} (i : InvR h s) (ok : okSta s w) (k : ∀ h', InvR h' (nQueue s).2 → FrB h h' → ((rdQ s).1.1 = 0 → PlG (rdQ s).2 ∧ PlN (rdQ s).2) → Q (nQueue s).1 h') : ci G (d + 37) m_X12_queue [.ref 446] h Q := by
  unfold nQueue at k
  refine ci_wp rfl (Nat.le_of_ble_eq_true rfl) rfl (x_X12_queue ⟨i.la.md.1, ?_⟩)
  rintro h1 e1
  have i1 : InvR h1 s := by rw [e1]; exact i.th
  have f1 : FrB h h1 := by rw [e1]; exact FrB.si (by decide)
  clear e1
  refine r_cutAll (d := d + 33) ok.tx i1.la i1.tx.1 i1.tx.2 (fun h3 f3 tk z2 z3 z7 z8 => ?_)
  have hL3 := f3.la i1.la
  refine ⟨hL3.md.1, ?_⟩
  rintro _ rfl
  have hL4 : La (si h3 446 12 0) := hL3
  refine r_stands (d := d + 35) (b := 90) hL4 (by decide) (fun h6 a1 a2 a3 a4 => ?_)
  have hL6 : La h6 := ⟨a1.trans hL4.1, fun a k hx => by show h6.2.2.2.2 a k = _; rw [a2]; exact hL4.2 a k hx⟩
  have g446 : ∀ j, gi h6 446 j = if j = 12 then 0 else gi h3 446 j := fun j => (congrFun (a3 446 (by decide)) j).trans si_66
  have gne : ∀ a, a ≠ 446 → a ≠ 452 → gi h6 a = gi h3 a := fun a x1 x2 => (a3 a x2).trans (si_6n x1)
  have gj6 : gj h6 = gj h3 := by show h6.2.2.1 = _; rw [a2]
  have gf6 : gf h6 = gf h3 := by show h6.2.2.2.1 = _; rw [a2]
  have gp6 : gp h6 = gp h3 := by show h6.2.2.2.2 = _; rw [a2]
  have tk6 : TkR h6 (TT (sT s) 0) := fun j t ht => by
    obtain ⟨b1, b2, b3, b4, b5⟩ := tk j t ht
    unfold TokR
    rw [gne 448 (by decide) (by decide), gne 449 (by decide) (by decide), gj6]
    exact ⟨b1, b2, b3, b4, b5⟩
  have wd6 : WdR h6 := fun v hv => by rw [gj6]; exact (congrFun (f3.2.2.2.1 451 (by decide)) v).trans (i1.wd v hv)
  obtain ⟨t1, t2⟩ := TT_ok ok.tx
  have t3 := ok.tx.1
  have rs6 : RS h6 (TT (sT s) 0) (0, TT (sT s) 0) := ⟨tk6, wd6, by omega, t1, Nat.zero_le _, 0, rfl, by rw [g446, if_neg (by decide)]; exact z7, by rw [g446, if_neg (by decide)]; exact z8⟩
  have st : ∀ j, 90 ≤ j → j < 180 → gi h6 452 j = stV j 90 := fun j x1 x2 => by rw [a4, if_pos ⟨x1, by omega⟩]
  have pl6 : PlR h6 90 25 1100 pl0 := ⟨st 90 (by decide) (by decide), st 91 (by decide) (by decide), st 92 (by decide) (by decide), st 93 (by decide) (by decide), fun j hj => absurd hj (Nat.not_lt_zero j), fun j hj => absurd hj (Nat.not_lt_zero j), fun j hj => absurd hj (Nat.not_lt_zero j), fun j hj => absurd hj (Nat.not_lt_zero j), fun j hj => absurd hj (Nat.not_lt_zero j), by unfold LwR; rw [if_pos (show pLw pl0 = [] from rfl)]; exact st 94 (by decide) (by decide)⟩
  have px6 : PlX h6 pl0 := ⟨st 177 (by decide) (by decide), by rw [g446, if_pos rfl]; rfl⟩
  have pg0 : PlG pl0 := ⟨⟨fun l hl => (by cases hl), fun l hl => (by cases hl), fun l hl => (by cases hl), by decide, by decide, by decide, fun x hx => (by cases hx), fun x hx => (by cases hx), by decide, fun q => absurd rfl q, by decide⟩, fun _ => rfl⟩
  have pn0 : PlN pl0 := ⟨fun x y hx => absurd hx (Nat.not_lt_zero x), fun x y hx => absurd hx (Nat.not_lt_zero x), fun x y hx => absurd hx (Nat.not_lt_zero x)⟩
  have hB : PlB (rdQ s).2 := qL_plb ok.tx
  -- what stands as ahead
  have z26 : gi h6 446 2 = 0 := by rw [g446, if_neg (by decide)]; exact z2
  have low52 : ∀ j, j < 90 → gi h6 452 j = gi h1 452 j := fun j hj => by rw [a4, if_neg (by omega), si_6n (by decide)]; exact congrFun (f3.2.1 452 (by decide) (by decide) (by decide)) j
  have same : ∀ a, a ≠ 446 → a ≠ 448 → a ≠ 449 → a ≠ 452 → gi h6 a = gi h1 a := fun a x1 x2 x3 x4 => (gne a x1 x4).trans (f3.2.1 a x1 x2 x3)
  have f6fld : ∀ j, j = 18 ∨ j = 19 → gi h6 446 j = gi h1 446 j := fun j hj => by rw [g446, if_neg (by omega)]; exact f3.2.2.1 j (by omega) (by omega) (by omega) (by omega)
  have gjs : ∀ a, a ≠ 450 → gj h6 a = gj h1 a := fun a ha => by rw [gj6]; exact f3.2.2.2.1 a ha
  have fb6 : FrB h1 h6 := ⟨a1.trans f3.1, fun a ha => same a (by omega) (by omega) (by omega) (by omega), fun a ha => gjs a (by omega), gf6.trans f3.2.2.2.2.1, gp6.trans f3.2.2.2.2.2⟩
  have eR : qL 1001 (0, TT (sT s) 0) pl0 = rdQ s := rfl
  generalize rdQ s = R at *
  refine r_queueLoop (d := d) (post := fun v h1 => ∃ r, v = some (.int r) ∧ Q r h1) (h0 := h6) hL6 (R := R) (fun h7 f7 rs7 c7 pl7 px7 pg7 pn7 => ?_) (fun h7 f7 rs7 c7 => ?_) 1001 (0, TT (sT s) 0) pl0 h6 eR FrL.rfl' rs6 (fun _ => ⟨pl6, px6, pg0, pn0, by show (TT (sT s) 0).length ≤ 1001; omega, by show (TT (sT s) 0).length ≤ 1001; omega⟩)
  · have hL7 := f7.la hL6
    have fq := f7.1
    refine r_copies (d := d + 36) hL7 pl7 px7 pg7 (fun h8 f8 pl8 => ?_)
    have hL8 := f8.la hL7
    refine r_begins (d := d + 12) hL8 pl8 pg7.1 hB (fun h9 fg hK hA y1 y2 y3 y4 y5 y6 => ?_)
    refine ⟨_, rfl, ?_⟩
    unfold nQueueR at k
    rw [if_pos c7] at k
    have gj9 : gj h9 = gj h8 := by show h9.2.2.1 = _; rw [fg.2.2.2]
    have gf9 : gf h9 = gf h8 := by show h9.2.2.2.1 = _; rw [fg.2.2.2]
    have gp9 : gp h9 = gp h8 := by show h9.2.2.2.2 = _; rw [fg.2.2.2]
    have hL9 : La h9 := ⟨fg.1.trans hL8.1, fun a k hx => by rw [gp9]; exact hL8.2 a k hx⟩
    refine k h9 ?_ ?_ (fun _ => ⟨pg7, pn7⟩)
    · refine ⟨hL9, fun v hv => ?_, ⟨fun j hj => absurd hj (Nat.not_lt_zero j), ?_⟩, pl8.same (fg.2.1 452 (by decide) (by decide) (by decide) (by decide) (by decide) (by decide) (by decide)) (fg.2.1 453 (by decide) (by decide) (by decide) (by decide) (by decide) (by decide) (by decide)) (by rw [gj9]), hK, ⟨y2, fun j q hq => by cases hq⟩, hA, ⟨y3, fun j A hA => by cases hA⟩, ⟨y1, fun j q hq => by cases hq⟩, y4, fun m hm => ⟨fun _ => ?_, fun A sl e => by cases e⟩⟩
      · rw [gj9, f8.2.2.1 451 (by decide), fq.2.2.2.1 451 (by decide)]; exact wd6 v hv
      · rw [fg.2.2.1 2 (by decide) (by decide), f8.2.1 446 (by decide) (by decide), fq.2.2.1 2 (by decide) (by decide) (by decide)]; exact z26
      · have : m = 0 ∨ m = 1 := by omega
        rcases this with q | q
        · rw [q]; exact y5
        · rw [q]; exact y6
    · refine f1.trans (fb6.trans ⟨fg.1.trans (f8.1.trans fq.1), fun a ha => ?_, fun a ha => ?_, ?_, ?_⟩)
      · rw [fg.2.1 a (by omega) (by omega) (by omega) (by omega) (by omega) (by omega) (by omega), f8.2.1 a (by omega) (by omega)]; exact fq.2.1 a (by omega)
      · rw [gj9, f8.2.2.1 a (by omega)]; exact fq.2.2.2.1 a (by omega)
      · rw [gf9, f8.2.2.2.1]; exact fq.2.2.2.2.1
      · rw [gp9, f8.2.2.2.2]; exact fq.2.2.2.2.2
  · have fq := f7.1
    refine ⟨_, rfl, ?_⟩
    unfold nQueueR at k
    rw [if_neg c7] at k
    refine k h7 (InvR_bad i1 ok (fq.1.trans fb6.1) (fun a ha => (fq.2.1 a (by omega)).trans (same a (by omega) (by omega) (by omega) (by omega))) (fun j _ => (congrFun f7.2.2.2.2 j).trans (congrFun (same 455 (by decide) (by decide) (by decide) (by decide)) j)) (fun j hj => (fq.2.2.1 j (by omega) (by omega) (by omega)).trans (f6fld j hj)) ((fq.2.2.1 2 (by decide) (by decide) (by decide)).trans z26) (fun j hj => (f7.2.1 j hj).trans (low52 j hj)) (fun j hj => (f7.2.2.1 j hj).trans (congrFun (same 453 (by decide) (by decide) (by decide) (by decide)) j)) (fun j hj => (f7.2.2.2.1 j hj).trans (congrFun (gjs 454 (by decide)) j)) ((fq.2.2.2.1 451 (by decide)).trans (gjs 451 (by decide))) (fq.2.2.2.2.2.trans fb6.2.2.2.2)) (f1.trans (fb6.trans ⟨fq.1, fun a ha => fq.2.1 a (by omega), fun a ha => fq.2.2.2.1 a (by omega), fq.2.2.2.2.1, fq.2.2.2.2.2⟩)) (fun q => absurd q c7)
end RQU
