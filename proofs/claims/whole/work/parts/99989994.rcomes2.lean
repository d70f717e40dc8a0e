/-! comes, away of the reference: the law's own array stands as it was -/
def FrB2 (h h' : pm_H) : Prop := FrB h h' ∧ gj h' 463 = gj h 463
theorem FrB2.rfl' {h : pm_H} : FrB2 h h := ⟨FrB.rfl', rfl⟩
theorem FrB2.trans {h h1 h2 : pm_H} (a : FrB2 h h1) (b : FrB2 h1 h2) : FrB2 h h2 := ⟨a.1.trans b.1, b.2.trans a.2⟩
theorem FrB2.si {h : pm_H} {a k : Nat} {v : Int32} (ha : 446 ≤ a) : FrB2 h (si h a k v) := ⟨FrB.si ha, rfl⟩
theorem FrV.fb2 {h h' : pm_H} (f : FrV h h') : FrB2 h h' := ⟨f.fb, f.2.2.2.1 463 (by decide)⟩
section QCA
variable {G : pm_G} {d : Nat} {h : pm_H} {s : Sta} {w : Nat}
theorem q_comes2 {x y : Int32} {Q : Int32 → pm_H → Prop} (i : InvR h s) (ok : okSta s w) (hw : w ≤ 1000) (k : ∀ h' r, InvR h' (shS s x) → FrB2 h h' → gi h' 446 0 = (if (aComes s x y).isSome = true then 0 else 1) → (∀ v, aComes s x y = some v → r = v) → Q r h') : ci G (d + 22) m_X12_comes [.ref 446, .int x, .int y] h Q := by
  have n3 := ok.n3
  refine ci_wp rfl (Nat.le_of_ble_eq_true rfl) rfl (x_X12_comes ⟨i.la.md.1, ?_⟩)
  rintro h1 e1
  have i1 : InvR h1 s := by rw [e1]; exact i.th
  have f1 : FrB2 h h1 := by rw [e1]; exact FrB2.si (by decide)
  clear e1
  refine q_isHeap (d := d + 19) i1 ok.pl ?_
  have fin : ∀ (m : Nat) (h3 : pm_H), m ≤ 20 → InvR h3 (shS s x) → FrB2 h h3 → (inB m y = true → ∃ v, aComes s x y = some v ∧ gi h3 461 (ix y) = v) → (inB m y = false → aComes s x y = none) → Wp G (m_X12_comes, d + 21 + 1, 0, 0, fun v h1 => ∃ r, v = some (.int r) ∧ Q r h1) (0, 0) 32 [.ref 446, .null, .int y, .int (nI m)] [] h3 := by
    intro m h3 hm i3 f3 z1 z0
    refine x_X12_comes_32 (q_withinN (d := d + 20) (by omega) ?_)
    rcases inB_or (n := m) y (by omega) with c | ⟨b, hb, rfl, c, cy⟩
    · rw [c, if_pos b0f]
      refine ⟨i3.la.md.1, ?_⟩
      rintro _ rfl
      rw [si_66, if_pos rfl, if_neg (show ¬ (1 : Int32) ≤ 0 by decide)]
      have e := z0 c
      refine ⟨_, rfl, k _ 0 i3.th (f3.trans (FrB2.si (by decide))) ?_ (fun v hv => by rw [e] at hv; cases hv)⟩
      rw [si_66, if_pos rfl, e]; rfl
    · rw [c, if_neg b1t]
      refine ⟨i3.la.md.1, ?_⟩
      rintro _ rfl
      obtain ⟨v, e, ev⟩ := z1 c
      rw [cy] at ev
      have g22 : gp (si h3 446 0 0) 446 22 = 461 := i3.la.com.1
      rw [si_66, if_pos rfl, if_pos (show (0 : Int32) ≤ 0 by decide), g22, cl_nI (show b < 2 ^ 31 by omega), si_6n (by decide), ev]
      refine ⟨20, i3.la.com.2, vp_nI (by omega) (by decide), _, rfl, k _ v i3.th (f3.trans (FrB2.si (by decide))) ?_ (fun u hu => by rw [e] at hu; cases hu; rfl)⟩
      rw [si_66, if_pos rfl, e]; rfl
  rcases inB_or (n := pHn (sP s)) x (by omega) with c | ⟨a, ha, rfl, c, cx⟩
  · rw [c, if_pos b0f]
    have ec : aComes s x y = none := by unfold aComes; rw [c, if_neg (by decide)]
    refine fin 0 h1 (by decide) (by rw [show shS s x = s from if_neg (by rw [c]; decide)]; exact i1) f1 (fun q => ?_) (fun _ => ec)
    rcases inB_or (n := 0) y (by decide) with c2 | ⟨b, hb, -⟩
    · rw [c2] at q; cases q
    · exact absurd hb (Nat.not_lt_zero _)
  · rw [c, if_neg b1t]
    refine ⟨i1.la.md.1, ?_⟩
    rintro h2 e2
    have i2 : InvR h2 (stN s (sN s + 1)) := by rw [e2]; exact i1.shut1
    have f2 : FrB2 h h2 := f1.trans (by rw [e2]; exact FrB2.si (by decide))
    clear e2
    obtain ⟨l1, l2, l3⟩ := InvC.lens ok hw ha
    refine q_all (d := d) i2 (okSta_stN ok) hw ha (fun h3 i3 f3 hO => ?_)
    have ec : aComes s (nI a) y = if inB (cmL s a).length y = true then some (nI ((cmL s a).getD (ix y) 0)) else none := by unfold aComes; rw [if_pos c, cx]
    refine fin (cmL s a).length h3 l1 (by rw [show shS s (nI a) = stN s (sN s + 1) from if_pos c]; exact i3) (f2.trans f3.fb2) (fun q => ?_) (fun q => by rw [ec, q, if_neg (by decide)])
    rw [ec, if_pos q]
    refine ⟨_, rfl, hO _ ?_⟩
    rcases inB_or (n := (cmL s a).length) y (by omega) with c2 | ⟨b, hb, -, -, cy⟩
    · rw [c2] at q; cases q
    · rw [cy]; exact hb
theorem q_away2 {x y : Int32} {Q : Int32 → pm_H → Prop} (i : InvR h s) (ok : okSta s w) (hw : w ≤ 1000) (k : ∀ h' r, InvR h' (shS s x) → FrB2 h h' → gi h' 446 0 = (if (aAway s x y).isSome = true then 0 else 1) → (∀ v, aAway s x y = some v → r = v) → Q r h') : ci G (d + 22) m_X12_away [.ref 446, .int x, .int y] h Q := by
  have n3 := ok.n3
  refine ci_wp rfl (Nat.le_of_ble_eq_true rfl) rfl (x_X12_away ⟨i.la.md.1, ?_⟩)
  rintro h1 e1
  have i1 : InvR h1 s := by rw [e1]; exact i.th
  have f1 : FrB2 h h1 := by rw [e1]; exact FrB2.si (by decide)
  clear e1
  refine q_isHeap (d := d + 19) i1 ok.pl ?_
  rcases inB_or (n := pHn (sP s)) x (by omega) with c | ⟨a, ha, rfl, c, cx⟩
  · rw [c, if_pos b0f]
    have ec : aAway s x y = none := by unfold aAway; rw [c, if_neg (by decide)]
    refine x_X12_away_32 ⟨i1.la.md.1, q_isHeap (d := d + 19) i1 ok.pl ?_⟩
    rw [c, if_pos b0f]
    refine ⟨i1.la.md.1, ?_⟩
    rintro _ rfl
    rw [si_66, if_pos rfl, if_neg (show ¬ (1 : Int32) ≤ 0 by decide)]
    refine ⟨_, rfl, k _ 0 (by rw [show shS s x = s from if_neg (by rw [c]; decide)]; exact i1.th) (f1.trans (FrB2.si (by decide))) ?_ (fun v hv => by rw [ec] at hv; cases hv)⟩
    rw [si_66, if_pos rfl, ec]; rfl
  · rw [c, if_neg b1t]
    refine ⟨i1.la.md.1, ?_⟩
    rintro h2 e2
    have i2 : InvR h2 (stN s (sN s + 1)) := by rw [e2]; exact i1.shut1
    have f2 : FrB2 h h2 := f1.trans (by rw [e2]; exact FrB2.si (by decide))
    clear e2
    obtain ⟨l1, l2, l3⟩ := InvC.lens ok hw ha
    obtain ⟨d1, d2⟩ := lens_nd ok hw ha
    rw [show shS s (nI a) = stN s (sN s + 1) from if_pos c] at k
    refine q_all (d := d) i2 (okSta_stN ok) hw ha (fun h3 i3 f3 hO => ?_)
    have f9 := f2.trans f3.fb2
    refine x_X12_away_32 ⟨i3.la.md.1, q_isHeap (d := d + 19) i3 ok.pl ?_⟩
    rw [show inB (pHn (sP (stN s (sN s + 1)))) (nI a) = true from c, if_neg b1t]
    refine ⟨i3.la.md.1, q_isItem (d := d + 19) i3 ok.pl ?_⟩
    have bad : aAway s (nI a) y = none → ∀ h8, h8 = si h3 446 0 1 → (if gi h8 446 0 ≤ 0 then ci G (d + 21) m_X12_awayOf [.ref 446, .int (nI a), .int y, .int (nI (cmL s a).length)] h8 fun r9 h10 => ∃ r, (some (Value.int r9) : Option Value) = some (.int r) ∧ Q r h10 else ∃ r, (some (Value.int 0) : Option Value) = some (.int r) ∧ Q r h8) := by
      rintro ec _ rfl
      rw [si_66, if_pos rfl, if_neg (show ¬ (1 : Int32) ≤ 0 by decide)]
      refine ⟨_, rfl, k _ 0 i3.th (f9.trans (FrB2.si (by decide))) ?_ (fun v hv => by rw [ec] at hv; cases hv)⟩
      rw [si_66, if_pos rfl, ec]; rfl
    rcases inB_or (n := pN (sP s)) y (by omega) with c2 | ⟨b, hb, rfl, c2, cy⟩
    · rw [show inB (pN (sP (stN s (sN s + 1)))) y = false from c2, if_pos b0f]
      exact ⟨i3.la.md.1, bad (by unfold aAway; rw [if_pos c, c2, if_neg (by decide)])⟩
    · rw [show inB (pN (sP (stN s (sN s + 1)))) (nI b) = true from c2, if_neg b1t, i3.la.md.2.1, show (240 : Int32) = nI 240 from rfl, nI_add, cl_nI (show 240 + b < 2 ^ 31 by omega), i3.hp b (by omega)]
      refine ⟨i3.la.md.1, 4485, i3.la.md.2.2, vp_nI (by omega) (by decide), ?_⟩
      by_cases c3 : (sA s).2.1 b = nI a
      · rw [if_pos (show (sA (stN s (sN s + 1))).2.1 b = nI a from c3)]
        rintro _ rfl
        rw [si_66, if_pos rfl, if_pos (show (0 : Int32) ≤ 0 by decide)]
        have ec : aAway s (nI a) (nI b) = some (awayI (ahP (sP s)) (cmL s a) b) := by unfold aAway; rw [if_pos c, if_pos c2, cy, cx, if_pos c3]
        have i4 : InvR (si h3 446 0 0) (stN s (sN s + 1)) := i3.th
        have e461 : gi (si h3 446 0 0) 461 = gi h3 461 := si_6n (by decide)
        have f4 : FrB2 h (si h3 446 0 0) := f9.trans (FrB2.si (by decide))
        have th : gi (si h3 446 0 0) 446 0 = 0 := by rw [si_66, if_pos rfl]
        generalize si h3 446 0 0 = h4 at *
        have t := r_awayOf (G := G) (d := d + 18) (h := h4) (C := gi h4 461) (F := gi h4 456) (P := gi h4 457) (S := gi h4 458) (b := 0) (N := pN (sP s)) (a := a) (t := b) (hp := (sA s).2.1) (l := cmL s a) (Q := fun r13 h14 => ∃ r, (some (Value.int r13) : Option Value) = some (.int r) ∧ Q r h14) i4.la i4.hn.2.2.1 n3.2.2 (by omega) (by omega) i4.hp (fun t h1 h2 => (ok.a.out h1 h2).1) (by rw [e461]; exact hO) l2 d1 l1 d2 (by
          rw [nfc, away_agr i4.ky.agr.2 l3 hb]
          exact ⟨_, rfl, k h4 _ i4 f4 (by rw [th, ec]; rfl) (fun v hv => by rw [ec] at hv; cases hv; rfl)⟩)
        rwa [nfc] at t
      · rw [if_neg (show ¬ (sA (stN s (sN s + 1))).2.1 b = nI a from c3)]
        exact bad (by unfold aAway; rw [if_pos c, if_pos c2, cy, if_neg c3])
end QCA
