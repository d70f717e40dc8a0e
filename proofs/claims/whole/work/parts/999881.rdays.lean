/-! THE REFERENCE: who, ask, days, judged -/
section QWD
variable {G : pm_G} {d : Nat} {h : pm_H} {s : Sta} {w : Nat}
theorem q_whoNow {Q : Int32 → pm_H → Prop} (i : InvR h s) (ok : okSta s w) (hw : w ≤ 1000) (k : ∀ h', InvR h' s → FrV h h' → KdR (gi h' 462) (ktP s) (pHn (sP s)) → Q (aWho s) h') : ci G (d + 23) m_X12_whoNow [.ref 446] h Q := by
  have n3 := ok.n3
  have kt : ∀ a j, a < pHn (sP s) → ktF (rLt (gi h 460)) (fun u => gi h 452 (7 + 4 * u)) (sA s) a j = ktP s a j := fun a j ha => ktF_agr ok.a hw (by omega) i.ky.agr.1 (fun t ht => by have := (i.pl.2.2.2.2.2.2.2.2.1 t ht).1; rw [Nat.zero_add] at this; exact this) j
  have t := r_whoNow (G := G) (d := d) (h := h) (ky := gi h 460) (F := gi h 456) (P := gi h 457) (S := gi h 458) (C := gi h 461) (K := gi h 462) (Q := Q) (H := pHn (sP s)) i.la i.hn.1 n3.1 hw ok.a.1 i.ra i.see ok.s.2 ok.s.1 (fun S' C' K' hZ hK => by
    rw [whoI_agr (f := fitB (ktF (rLt (gi h 460)) (fun u => gi h 452 (7 + 4 * u)) (sA s)) (sS s)) (f' := fitB (ktP s) (sS s)) (fun a ha => fitB_agr (fun j => kt a j ha))]
    have f : FrV h (s8 (fp (co (ko h K') C') (gi h 456) (gi h 457)) S') := FrV.mk (hZ.ry (by decide))
    refine k _ (i.fv ok f) f (fun a j ha hj => ?_)
    rw [sfq, hK a j ha hj, kt a j ha])
  rwa [nfk] at t
theorem q_who {Q : Int32 → pm_H → Prop} (i : InvR h s) (ok : okSta s w) (hw : w ≤ 1000) (k : ∀ h', InvR h' (stN s (sN s + 1)) → FrB h h' → Q (aWho s) h') : ci G (d + 24) m_X12_who [.ref 446] h Q := by
  refine ci_wp rfl (Nat.le_of_ble_eq_true rfl) rfl (x_X12_who ⟨i.la.md.1, ?_⟩)
  rintro h1 e1
  have i1 : InvR h1 s := by rw [e1]; exact i.th
  have f1 : FrB h h1 := by rw [e1]; exact FrB.si (by decide)
  clear e1
  rintro h2 e2
  have i2 : InvR h2 (stN s (sN s + 1)) := by rw [e2]; exact i1.shut1
  have f2 : FrB h h2 := f1.trans (by rw [e2]; exact FrB.si (by decide))
  clear e2
  exact q_whoNow (d := d) i2 (okSta_stN ok) hw (fun h3 i3 f3 _ => ⟨_, rfl, k h3 i3 (f2.trans f3.fb)⟩)
theorem q_ask {Q : Int32 → pm_H → Prop} (i : InvR h s) (ok : okSta s w) (hw : w ≤ 1000) (k : ∀ h', InvR h' (stN s (sN s + 1)) → FrB h h' → Q (aAsk s) h') : ci G (d + 24) m_X12_ask [.ref 446] h Q := by
  have n3 := ok.n3
  refine ci_wp rfl (Nat.le_of_ble_eq_true rfl) rfl (x_X12_ask ⟨i.la.md.1, ?_⟩)
  rintro h1 e1
  have i1 : InvR h1 s := by rw [e1]; exact i.th
  have f1 : FrB h h1 := by rw [e1]; exact FrB.si (by decide)
  clear e1
  rintro h2 e2
  have i2 : InvR h2 (stN s (sN s + 1)) := by rw [e2]; exact i1.shut1
  have f2 : FrB h h2 := f1.trans (by rw [e2]; exact FrB.si (by decide))
  clear e2
  obtain ⟨m, m8, em, ex⟩ := who_ix (f := fitB (ktP s) (sS s)) n3.1
  have k : ∀ h', InvR h' (stN s (sN s + 1)) → FrB h h' → Q (askF (ktP s) (nI m) (nI (pop8 m)) (pHn (sP s)) 40).2 h' := by
    unfold aAsk popI aWho at k
    rw [ex, em] at k
    exact k
  refine q_whoNow (d := d) i2 (okSta_stN ok) hw (fun h3 i3 f3 hK => ?_)
  rw [show aWho (stN s (sN s + 1)) = nI m from em]
  refine r_ones (d := d + 22) m8 ?_
  have t := r_askLoop (G := G) (d := d) (h := h3) (F := gi h3 456) (P := gi h3 457) (S := gi h3 458) (C := gi h3 461) (K := gi h3 462) (Q := Q) (H := pHn (sP s)) (kt := ktP s) i3.la i3.hn.1 n3.1 hK m8 (by
    rw [nfk]; exact k h3 i3 (f2.trans f3.fb))
  rwa [nfk] at t
theorem q_withinG {x lo hi : Int32} {Q : Int32 → pm_H → Prop} (k : Q (b2i (!decide (x < lo) && !decide (hi < x))) h) : ci G (d + 1) m_X12_within [.int x, .int lo, .int hi] h Q := by
  refine ci_wp rfl (Nat.le_of_ble_eq_true rfl) rfl (x_X12_within ?_)
  by_cases c : x < lo
  · rw [if_pos c]; rw [decide_eq_true c] at k; exact ⟨_, rfl, k⟩
  · rw [if_neg c]
    by_cases c2 : hi < x
    · rw [if_pos c2]; rw [decide_eq_true c2, decide_eq_false c] at k; exact ⟨_, rfl, k⟩
    · rw [if_neg c2]; rw [decide_eq_false c2, decide_eq_false c] at k; exact ⟨_, rfl, k⟩
/-- what stands in a trial's place -/
theorem q_onFloorT {A : AF} {v : Nat} {Q : Int32 → pm_H → Prop} (hL : La h) (hN : gi h 452 2 = nI (pN (sP s))) (ok : okSta s w) (lo : okN (pN (sP s)) A v) (hC : RA (gi h 460) (gi h 458) 3795 A) (k : Q (flo A (pN (sP s))) h) : ci G (d + 2) m_X12_onFloor [.ref 446, .int 3795] h Q := by
  have t := r_onFloor (G := G) (d := d) (F := gi h 456) (P := gi h 457) (S := gi h 458) (Q := Q) (b := 3795) hL.mk hN ok.n3.2.2 (by decide) (fun t ht => ⟨(hC.2 t ht).1, (hC.2 t ht).2.1⟩) lo.1.2.1 lo.2.2.2.1 (by rw [nf]; exact k)
  rwa [nf] at t
theorem q_raisedT {A : AF} {v : Nat} {Q : Int32 → pm_H → Prop} (hL : La h) (hN : gi h 452 2 = nI (pN (sP s))) (hK : KyR h (sP s)) (ok : okSta s w) (lo : okN (pN (sP s)) A v) (hv : v ≤ 1000) (hC : RA (gi h 460) (gi h 458) 3795 A) (k : Q (rsA (sP s) A) h) : ci G (d + 5) m_X12_raisedIn [.ref 446, .int 3795, .int (-1)] h Q := by
  have t := r_raisedIn (G := G) (d := d) (F := gi h 456) (P := gi h 457) (S := gi h 458) (Q := Q) (b := 3795) (x := -1) (A := A) hL.mk hN ok.n3.2.2 (by decide) lo.1 hv hC (fun t h1 h2 => (lo.out h1 h2).1) (by
    rw [nf, okN_cnt lo hK.agr.1]
    have e : (fun t => inH A.2.1 (-1) t && rsd (ltP (sP s)) A.1 t) = rsd (ltP (sP s)) A.1 := by
      funext t
      unfold inH
      rw [decide_eq_true (show (-1 : Int32) < 0 by decide), Bool.true_or, Bool.true_and]
    rw [e]; exact k)
  rwa [nf] at t
theorem q_days {x y z : Int32} {Q : Int32 → pm_H → Prop} (i : InvR h s) (ok : okSta s w) (hw : w + 99 ≤ 1000) (k : ∀ h', InvR h' (daS s x y z) → FrB h h' → Q (aDays s x y z) h') : ci G (d + 29) m_X12_days [.ref 446, .int x, .int y, .int z] h Q := by
  have n3 := ok.n3
  unfold aDays at k
  refine ci_wp rfl (Nat.le_of_ble_eq_true rfl) rfl (x_X12_days ⟨i.la.md.1, ?_⟩)
  rintro h1 e1
  have i1 : InvR h1 s := by rw [e1]; exact i.th
  have f1 : FrB h h1 := by rw [e1]; exact FrB.si (by decide)
  clear e1
  have bad : dayB x y z = false → Q (-1) h1 := fun e => by
    have cb : ¬ dayB x y z = true := by rw [e]; decide
    have k := k h1 (by rw [show daS s x y z = s from if_neg cb]; exact i1) f1
    rwa [if_neg cb] at k
  refine q_within (d := d + 27) (n := 9999) (by decide) ?_
  cases b1 : inB (9999 + 1) x with
  | false => rw [if_pos b0f]; exact ⟨_, rfl, bad (by unfold dayB; rw [show inB 10000 x = false from b1]; rfl)⟩
  | true =>
    rw [if_neg b1t]
    refine q_withinG (d := d + 27) ?_
    have by_ : (!decide (y < 1) && !decide ((99 : Int32) < y)) = (inB 100 y && !decide (y = 0)) := by
      have e1 : (1 : Int32).toInt = 1 := by decide
      have e9 : (99 : Int32).toInt = 99 := by decide
      by_cases c1 : y < 1
      · rw [decide_eq_true c1]
        by_cases c0 : y = 0
        · rw [decide_eq_true c0, show (!true) = false from rfl, Bool.and_false, Bool.false_and]
        · rw [inB_no (Or.inl (by
            rw [i_lt0]
            rw [i_lt] at c1
            rw [i_eq] at c0
            have : (0 : Int32).toInt = 0 := rfl
            omega)) (by decide)]; rfl
      · rw [i_lt] at c1
        have c0 : ¬ y = 0 := fun q => by rw [q] at c1; exact c1 (by decide)
        have y0 : ¬ y < 0 := fun q => by rw [i_lt0] at q; omega
        rw [inB_le (n := 99) (by decide) y0, decide_eq_false c0, show (!false) = true from rfl, Bool.and_true]
        by_cases c2 : (99 : Int32) < y
        · rw [decide_eq_true c2, decide_eq_false (show ¬ y ≤ nI 99 from fun q => by rw [i_lt] at c2; rw [i_le, nI_toInt (by decide)] at q; omega), show (!true) = false from rfl, Bool.and_false]
        · rw [decide_eq_false c2, decide_eq_true (show y ≤ nI 99 by rw [i_lt] at c2; rw [i_le, nI_toInt (by decide)]; omega), decide_eq_false (show ¬ y < 1 from fun q => by rw [i_lt] at q; omega)]; rfl
    rw [by_]
    cases b2 : (inB 100 y && !decide (y = 0)) with
    | false => rw [if_pos b0f]; exact ⟨_, rfl, bad (by unfold dayB; rw [b2, Bool.false_and, Bool.and_false])⟩
    | true =>
      rw [if_neg b1t]
      refine q_within (d := d + 27) (n := 2) (by decide) ?_
      cases b3 : inB (2 + 1) z with
      | false => rw [if_pos b0f]; exact ⟨_, rfl, bad (by unfold dayB; rw [show inB 3 z = false from b3, Bool.and_false, Bool.and_false])⟩
      | true =>
        rw [if_neg b1t]
        have cb : dayB x y z = true := by unfold dayB; rw [show inB 10000 x = true from b1, b2, show inB 3 z = true from b3]; rfl
        rw [show daS s x y z = stN s (sN s + 1) from if_pos cb, if_pos cb] at k
        obtain ⟨⟨g, n, hg, rfl, ex, n0, n1, rfl, ey⟩, hz⟩ := dayB_is cb
        rw [ex, ey] at k
        refine ⟨i1.la.md.1, ?_⟩
        rintro h2 e2
        have i2 : InvR h2 (stN s (sN s + 1)) := by rw [e2]; exact i1.shut1
        have f2 : FrB h h2 := f1.trans (by rw [e2]; exact FrB.si (by decide))
        clear e2
        have mv := r_moves (G := G) (d := d + 27) (h := h2) (S := gi h2 458) (a := 0) (c := 3795) (n := 320) (Q := fun h10 => h10.1[446]? = some (0, 11) ∧ ∀ h11 : pm_H, h11 = sl h10 446 24 ((nI g : Int32).toInt64) → Wp G (m_X12_days, d + 28 + 1, 0, 0, fun v h1 => ∃ r, v = some (.int r) ∧ Q r h1) (0, 0) 70 [.ref 446, .null, .int (nI n), .int z, .int 0, .int 0] [] h11) i2.la.md (by decide) (by decide) (by decide) (by
          refine ⟨i2.la.md.1, ?_⟩
          rintro h3 e3
          have g3 : gi h3 = gi (s8 h2 (mvS (gi h2 458) 0 3795 320)) := by rw [e3]
          have f3 : FrV h2 h3 := by
            rw [e3]
            refine ⟨rfl, fun a h1 h2' h3 h4 h5 => s8_ne _ _ h3, ?_, fun a ha => pm_u_ne _ _ _ ha, rfl, rfl⟩
            show RY (gi h2 458) (gi (s8 h2 (mvS (gi h2 458) 0 3795 320)) 458)
            rw [s8_gi]
            intro j hj
            unfold mvS
            rw [if_neg (by omega)]
          have ra3 : RA (gi h3 460) (gi h3 458) 3795 (sA s) := by
            rw [g3, s8_gi, s8_ne _ _ (by decide)]
            exact i2.ra.move (a := 0) (fun j hj => by rw [mvS_at hj])
          have j3 : gj h3 446 24 = lN g := by
            rw [e3]
            show pm_u (gj h2) 446 24 (nI g).toInt64 446 24 = lN g
            rw [pm_u_at, nI_l (by omega)]; exact if_pos rfl
          clear e3 g3
          have i3 := i2.fv (okSta_stN ok) f3
          have f4 := f2.trans f3.fb
          have lo := liv_ok ok hw (g := g) (n := n) (by omega) (ltP (sP s)) (kdP (sP s)) (skP (sP s))
          have es : livF (ltP (sP s)) (tvP (sP s)) (kdP (sP s)) (skP (sP s)) (pHn (sP s)) (pN (sP s)) n g (sA s) = livS s g n := rfl
          rw [es] at lo
          -- the end
          have fin : ∀ h5, InvR h5 (stN s (sN s + 1)) → FrB h h5 → RA (gi h5 460) (gi h5 458) 3795 (livS s g n).2 → Wp G (m_X12_days, d + 28 + 1, 0, 0, fun v h1 => ∃ r, v = some (.int r) ∧ Q r h1) (0, 0) 113 [.ref 446, .null, .null, .int z, .int (nI (livS s g n).1), .null] [] h5 := by
            intro h5 i5 f5 r5
            have k := k h5 i5 f5
            refine x_X12_days_113 ?_
            by_cases z0 : z = 0
            · rw [if_pos z0] at k ⊢; exact ⟨_, rfl, k⟩
            · rw [if_neg z0] at k ⊢
              by_cases z1 : z = 1
              · rw [if_pos z1] at k ⊢
                exact ⟨i5.la.md.1, q_raisedT (d := d + 23) (s := s) (w := w) i5.la i5.hn.2.2.1 i5.ky ok lo (by omega) r5 ⟨_, rfl, k⟩⟩
              · rw [if_neg z1] at k ⊢
                exact ⟨i5.la.md.1, q_onFloorT (d := d + 26) (s := s) (w := w) i5.la i5.hn.2.2.1 ok lo r5 ⟨_, rfl, k⟩⟩
          by_cases c0 : pHn (sP s) = 0 ∨ pN (sP s) = 0
          · have el : livS s g n = (0, sA s) := if_pos c0
            rw [el] at fin
            refine x_X12_days_70 ?_
            rw [if_neg (show ¬ nI n ≤ 0 from fun q => by have := (nI_le0 (by omega)).mp q; omega)]
            refine ⟨i3.la.md.1, q_heaps (d := d + 27) i3 ?_⟩
            by_cases c1 : pHn (sP s) = 0
            · rw [if_pos (show nI (pHn (sP s)) ≤ 0 from (nI_le0 (by omega)).mpr c1)]
              exact fin h3 i3 f4 ra3
            · rw [if_neg (show ¬ nI (pHn (sP s)) ≤ 0 from fun q => c1 ((nI_le0 (by omega)).mp q))]
              refine ⟨i3.la.md.1, q_items (d := d + 27) i3 ?_⟩
              rw [if_pos (show nI (pN (sP s)) ≤ 0 from (nI_le0 (by omega)).mpr (by omega))]
              exact fin h3 i3 f4 ra3
          · have kd : ∀ t, t < pN (sP s) → (fun u => gi h3 452 (7 + 4 * u)) t = kdP (sP s) t := fun t ht => by have := (i3.pl.2.2.2.2.2.2.2.2.1 t ht).1; rw [Nat.zero_add] at this; exact this
            have la := liv_agr ok hw (g := g) (n := n) (by omega) (lt := rLt (gi h3 460)) (lt' := ltP (sP s)) (kd := fun u => gi h3 452 (7 + 4 * u)) (kd' := kdP (sP s)) (skd := fun s => gi h3 452 (5 + s)) (skd' := skP (sP s)) i3.ky.agr.1 kd
            rw [es] at la
            unfold livF at la
            rw [if_neg c0] at la
            have t := r_daysLoop (G := G) (d := d + 4) (h := h3) (post := fun v h1 => ∃ r, v = some (.int r) ∧ Q r h1) (tvf := tvP (sP s)) (N := pN (sP s)) (H := pHn (sP s)) (many := n) (what := z) i3.la i3.hn.1 i3.hn.2.2.1 (by omega) n3.1 (by omega) n3.2.2 (tvP_pos _) (fun J => InvR_grj (d := d + 21) (s := stN s (sN s + 1)) i3 (okSta_stN ok) J) (by omega) n 0 w g 0 (sA s) (gi h3 458) (gi h3 456) (gi h3 457) (gj h3) (Nat.zero_add _) (by omega) ok.a ra3 (by omega) ⟨j3, fun _ _ => rfl⟩ (fun S' F' P' J' hJ hA hZ => by
              rw [la] at hA ⊢
              have f5 : FrV h3 (s8 (fp (sj h3 J') F' P') S') := by
                refine ⟨rfl, fun a h1 h2 h3 h4 h5 => sfgi (sj _ _) _ _ _ h1 h2 h3, ?_, hJ, rfl, rfl⟩
                rw [s8_gi]
                exact hZ.ry (by decide)
              refine fin _ (i3.fv (okSta_stN ok) f5) (f4.trans f5.fb) ?_
              rw [s8_gi, sfgi (sj _ _) _ _ _ (by decide) (by decide) (by decide)]
              exact hA)
            rwa [nfj] at t)
        rwa [s8_self] at mv
theorem q_judged {x : Int32} {Q : Int32 → pm_H → Prop} (i : InvR h s) (ok : okSta s w) (k : ∀ h', InvR h' s → FrB h h' → Q (aJudged s x) h') : ci G (d + 28) m_X12_judged [.ref 446, .int x] h Q := by
  have n3 := ok.n3
  unfold aJudged at k
  refine ci_wp rfl (Nat.le_of_ble_eq_true rfl) rfl (x_X12_judged ⟨i.la.md.1, ?_⟩)
  rintro h1 e1
  have i1 : InvR h1 s := by rw [e1]; exact i.th
  have f1 : FrB h h1 := by rw [e1]; exact FrB.si (by decide)
  clear e1
  refine q_within (d := d + 26) (n := 2) (by decide) ?_
  cases b3 : inB (2 + 1) x with
  | false =>
    rw [show inB 3 x = false from b3, if_neg (by decide)] at k
    rw [if_pos b0f]; exact ⟨_, rfl, k h1 i1 f1⟩
  | true =>
    rw [show inB 3 x = true from b3, if_pos rfl] at k
    rw [if_neg b1t]
    refine ⟨i1.la.md.1, ?_⟩
    have hm : ∀ t, t < pN (sP s) → hmP (sP s) t < 3 ∧ gi h1 452 (7 + 4 * t + 3) = nI (hmP (sP s) t) := fun t ht => ⟨hm_lt ok ht, by have := (i1.pl.2.2.2.2.2.2.2.2.1 t ht).2.2.2; rw [Nat.zero_add] at this; exact this⟩
    have t := r_starts (G := G) (d := d + 4) (h := h1) (F := gi h1 456) (P := gi h1 457) (S := gi h1 458) (b := 3795) (N := pN (sP s)) (hm := hmP (sP s)) (tvf := tvP (sP s)) (Q := fun h5 => Wp G (m_X12_judged, d + 27 + 1, 0, 0, fun v h1 => ∃ r, v = some (.int r) ∧ Q r h1) (0, 0) 28 [.ref 446, .int x, .int (-1), .int 0] [] h5) i1.la.mk i1.hn.2.2.1 n3.2.2 (by decide) (tvP_pos _) (InvR_gr (d := d + 21) i1 ok) hm (fun S' F' P' hA hZ => by
      have f2 : FrV h1 (s8 (fp h1 F' P') S') := FrV.m (hZ.ry (by decide))
      have i2 := i1.fv ok f2
      have kd : ∀ t, t < pN (sP s) → (fun u => gi h1 452 (7 + 4 * u)) t = kdP (sP s) t := fun t ht => by have := (i1.pl.2.2.2.2.2.2.2.2.1 t ht).1; rw [Nat.zero_add] at this; exact this
      have ja := jud_agr ok (lt := rLt (gi h1 460)) (kd := fun u => gi h1 452 (7 + 4 * u)) (skd := fun s => gi h1 452 (5 + s)) i1.ky.agr.1 kd (fun t ht => by have := i1.pl.2.2.2.2.2.2.2.1 t ht; rw [Nat.zero_add] at this; exact this)
      have lo := jud_ok ok
      have oN := okN_tell (lt := rLt (gi h1 460)) (tvf := tvP (sP s)) (hm := hmP (sP s)) n3.2.2 (tvP_pos _) (pN (sP s)) (Nat.le_refl _) (fun t ht => hm_lt ok ht)
      refine r_judgeLoop (d := d + 4) (N := pN (sP s)) (l := sW s) (what := x) (h := h1) i1.la i1.hn.2.2.1 n3.2.2 (tvP_pos _) (InvR_gr (d := d + 21) i1 ok) i1.wk ok.wk.2.1 ok.wk.1 (sW s).length 0 (pN (sP s)) (-1) _ S' F' P' (Nat.zero_add _) (by have := ok.wk.2.1; omega) oN hA (Or.inl rfl) (fun S2 F2 P2 hA2 hZ2 => ?_)
      rw [List.drop_zero, ja] at hA2 ⊢
      have f3 : FrV h1 (s8 (fp h1 F2 P2) S2) := FrV.m ((hZ.ry (by decide)).trans (hZ2.ry (by decide)))
      have i3 := i1.fv ok f3
      have k := k _ i3 (f1.trans f3.fb)
      have r3 : RA (gi (s8 (fp h1 F2 P2) S2) 460) (gi (s8 (fp h1 F2 P2) S2) 458) 3795 (judS s).2 := by
        rw [s8_gi, sfgi _ _ _ _ (by decide) (by decide) (by decide)]; exact hA2
      by_cases z0 : x = 0
      · rw [if_pos z0] at k ⊢; exact ⟨_, rfl, k⟩
      · rw [if_neg z0] at k ⊢
        by_cases z1 : x = 1
        · rw [if_pos z1] at k ⊢
          exact q_onFloorT (d := d + 25) (s := s) (w := w) i3.la i3.hn.2.2.1 ok lo r3 ⟨_, rfl, k⟩
        · rw [if_neg z1] at k ⊢
          exact q_raisedT (d := d + 22) (s := s) (w := w) i3.la i3.hn.2.2.1 i3.ky ok lo (by have := ok.wk.2.1; omega) r3 ⟨_, rfl, k⟩)
    rwa [nf] at t
end QWD
