/-! WORKS BY HAND: the reference -/
section QWK
variable {G : pm_G} {d : Nat} {h : pm_H} {s : Sta} {w : Nat}
theorem InvR_new {h' : pm_H} {A' : AF} {us' : List AF} {sl' : List Sn} {n' : Nat} {mk' : Nat → Option (AF × List Sn)} (i : InvR h s) (e1 : h'.1 = h.1) (eg : ∀ a, a ≠ 446 → a ≠ 456 → a ≠ 457 → a ≠ 458 → a ≠ 459 → gi h' a = gi h a) (e2 : gi h' 446 2 = gi h 446 2) (ej : ∀ a, a ≠ 446 → gj h' a = gj h a) (ep : gp h' = gp h) (ra : RA (gi h 460) (gi h' 458) 0 A') (pa : PastR h' us') (se : SnR (gi h' 458) sl') (sn : gi h' 446 19 = nI n') (mk : MarkR h' mk') : InvR h' (sT s, sP s, sW s, A', us', sl', n', mk') := by
  obtain ⟨i1, i2, ⟨i3, i4⟩, i5, i6, i7, i8, i9, i10, i11, i12⟩ := i
  have e : ∀ a, a = 447 ∨ a = 452 ∨ a = 453 ∨ a = 455 ∨ a = 460 → gi h' a = gi h a := fun a ha => eg a (by omega) (by omega) (by omega) (by omega) (by omega)
  refine ⟨⟨e1.trans i1.1, fun a k hx => by rw [ep]; exact i1.2 a k hx⟩, fun w hw => (congrFun (ej 451 (by decide)) w).trans (i2 w hw), ⟨fun j hj => (congrFun (e 447 (by omega)) j).trans (i3 j hj), e2.trans i4⟩, i5.same (e 452 (by omega)) (e 453 (by omega)) (ej 454 (by decide)), fun t ht => (congrFun (e 460 (by omega)) t).trans (i6 t ht), i7.of (e 455 (by omega)), ?_, pa, se, sn, mk⟩
  rw [e 460 (by omega)]; exact ra
theorem past_keep {h' : pm_H} {us : List AF} (p : PastR h us) (hu : us.length ≤ 8) (e18 : gi h' 446 18 = gi h 446 18) (e60 : gi h' 460 = gi h 460) (eS : ∀ x, 1035 ≤ x → x < 3795 → gi h' 458 x = gi h 458 x) : PastR h' us := by
  refine ⟨e18.trans p.1, fun j A hA => ?_⟩
  have hj := (List.getElem?_eq_some_iff.mp hA).1
  rw [e60]
  exact (p.2 j A hA).move (fun x hx => eS _ (by omega) (by omega))
theorem mark_keep {h' : pm_H} {mk : Nat → Option (AF × List Sn)} (p : MarkR h mk) (h8 : ∀ m A sl, mk m = some (A, sl) → sl.length ≤ 8) (e59 : gi h' 459 = gi h 459) (e60 : gi h' 460 = gi h 460) (eS : ∀ x, 345 ≤ x → x < 1035 → gi h' 458 x = gi h 458 x) : MarkR h' mk := by
  intro m hm
  rw [e59, e60]
  refine ⟨(p m hm).1, fun A sl z => ?_⟩
  obtain ⟨a, b, c⟩ := (p m hm).2 A sl z
  exact ⟨a, b.move (fun x hx => eS _ (by omega) (by omega)), c.of (h8 m A sl z) (fun j hj => eS _ (by omega) (by omega))⟩
theorem InvR_setA {A' : AF} {S' F' P' : Nat → Int32} (i : InvR h s) (ok : okSta s w) (hZ : RZ (gi h 458) S' 0) (hA : RA (gi h 460) S' 0 A') : InvR (s8 (fp h F' P') S') (stA s A') ∧ FrB h (s8 (fp h F' P') S') := by
  have eg : ∀ a, a ≠ 446 → a ≠ 456 → a ≠ 457 → a ≠ 458 → a ≠ 459 → gi (s8 (fp h F' P') S') a = gi h a := fun a h1 h2 h3 h4 h5 => sfgi _ _ _ _ h2 h3 h4
  have e46 : gi (s8 (fp h F' P') S') 446 = gi h 446 := sfgi _ _ _ _ (by decide) (by decide) (by decide)
  have e60 := eg 460 (by decide) (by decide) (by decide) (by decide) (by decide)
  have e59 : gi (s8 (fp h F' P') S') 459 = gi h 459 := sfgi _ _ _ _ (by decide) (by decide) (by decide)
  have eS : ∀ x, 320 ≤ x → gi (s8 (fp h F' P') S') 458 x = gi h 458 x := fun x hx => by rw [s8_gi]; exact hZ x (by omega)
  refine ⟨InvR_new i rfl eg (congrFun e46 2) (fun _ _ => rfl) rfl (by rw [s8_gi]; exact hA) (past_keep i.past ok.u.2 (congrFun e46 18) e60 (fun x hx _ => eS x (by omega))) ?_ ((congrFun e46 19).trans i.shut) (mark_keep i.mark (fun m A sl z => (ok.m m A sl z).2.2) e59 e60 (fun x hx _ => eS x (by omega))), ⟨rfl, fun a ha => sfgi _ _ _ _ (by omega) (by omega) (by omega), fun _ _ => rfl, rfl, rfl⟩⟩
  have se := i.see
  refine ⟨(eS 320 (by decide)).trans se.1, fun k x hx => ?_⟩
  obtain ⟨a, b, c⟩ := se.2 k x hx
  exact ⟨(eS _ (by omega)).trans a, (eS _ (by omega)).trans b, (eS _ (by omega)).trans c⟩
theorem q_moves {a c n : Nat} {Q : pm_H → Prop} (hL : La h) (h1 : a + n ≤ 4485) (h2 : c + n ≤ 4485) (hd : a + n ≤ c ∨ c + n ≤ a) (k : ∀ h', h' = s8 h (mvS (gi h 458) a c n) → Q h') : cv G (d + 1) m_X12_moves [.ref 446, .int (nI a), .int (nI c), .int (nI n)] h Q := by
  have t := r_moves (G := G) (d := d) (S := gi h 458) (a := a) (c := c) (n := n) (Q := Q) hL.md h1 h2 hd (k _ rfl)
  rwa [s8_self] at t
theorem m345 : ∀ k ∈ List.range 12, 345 * (3 + nI k) = nI (345 * (3 + k)) ∧ 345 * ((3 + nI k) - 1) = nI (345 * (2 + k)) ∧ 345 * (1 + nI k) = nI (345 * (1 + k)) := by decide +kernel
theorem q_keeps {Q : pm_H → Prop} (i : InvR h s) (ok : okSta s w) (k : ∀ h', InvR h' (remS s) → FrB h h' → Q h') : cv G (d + 2) m_X12_keeps [.ref 446] h Q := by
  have u8 := ok.u.2
  have p0 := i.past
  -- the last step
  have fin : ∀ (u : Nat) (us1 : List AF) (h1 : pm_H), u ≤ 7 → us1.length = u → ((sA s :: us1) = (sA s :: sU s).take 8) → h1.1 = h.1 → (∀ a, a ≠ 446 → a ≠ 458 → gi h1 a = gi h a) → (∀ k, k ≠ 18 → gi h1 446 k = gi h 446 k) → gi h1 446 18 = nI u → (∀ x, x < 1035 → gi h1 458 x = gi h 458 x) → gj h1 = gj h → gf h1 = gf h → gp h1 = gp h → (∀ j A, us1[j]? = some A → RA (gi h 460) (gi h1 458) (345 * (3 + (u - 1 - j))) A) → Wp G (m_X12_keeps, d + 2, 0, 0, fun v h1 => v = none ∧ Q h1) (0, 0) 56 [.ref 446, .null] [] h1 := by
    intro u us1 h1 hu hl eu g1 eg ef e18 eS ej efl ep hR
    have hL1 : La h1 := ⟨g1.trans i.la.1, fun a k hx => by rw [ep]; exact i.la.2 a k hx⟩
    refine x_X12_keeps_56 ⟨hL1.md.1, ?_⟩
    rw [e18, (m345 u (List.mem_range.mpr (by omega))).1]
    refine q_moves (d := d) (a := 0) (n := 320) hL1 (by decide) (by omega) (by omega) ?_
    rintro _ rfl
    refine ⟨hL1.md.1, ?_⟩
    rintro _ rfl
    have g458 : ∀ v, gi (si (s8 h1 (mvS (gi h1 458) 0 (345 * (3 + u)) 320)) 446 18 v) 458 = mvS (gi h1 458) 0 (345 * (3 + u)) 320 := fun v => (si_6n (by decide)).trans (s8_gi _ _)
    have gne : ∀ v a, a ≠ 446 → a ≠ 458 → gi (si (s8 h1 (mvS (gi h1 458) 0 (345 * (3 + u)) 320)) 446 18 v) a = gi h a := fun v a h1' h2' => ((si_6n h1').trans (s8_ne _ _ h2')).trans (eg a h1' h2')
    have g446 : ∀ v k, gi (si (s8 h1 (mvS (gi h1 458) 0 (345 * (3 + u)) 320)) 446 18 v) 446 k = if k = 18 then v else gi h 446 k := by
      intro v k
      rw [si_66]
      by_cases c : k = 18
      · rw [if_pos c, if_pos c]
      · rw [if_neg c, if_neg c, s8_ne _ _ (by decide)]; exact ef k c
    have e9 : gi (s8 h1 (mvS (gi h1 458) 0 (345 * (3 + u)) 320)) 446 18 = nI u := by rw [s8_ne _ _ (by decide)]; exact e18
    rw [e9, show (1 : Int32) = nI 1 from rfl, nI_add]
    have low : ∀ x, x < 1035 → mvS (gi h1 458) 0 (345 * (3 + u)) 320 x = gi h 458 x := fun x hx => by
      unfold mvS
      rw [if_neg (by omega)]; exact eS x hx
    have gjj : gj (si (s8 h1 (mvS (gi h1 458) 0 (345 * (3 + u)) 320)) 446 18 (nI (u + 1))) = gj h := ej
    have gff : gf (si (s8 h1 (mvS (gi h1 458) 0 (345 * (3 + u)) 320)) 446 18 (nI (u + 1))) = gf h := efl
    have gpp : gp (si (s8 h1 (mvS (gi h1 458) 0 (345 * (3 + u)) 320)) 446 18 (nI (u + 1))) = gp h := ep
    refine ⟨rfl, k _ ?_ ⟨g1, fun a ha => gne _ a (by omega) (by omega), fun a _ => by rw [gjj], gff, gpp⟩⟩
    refine InvR_new i g1 (fun a h1' _ _ h2' _ => gne _ a h1' h2') ((g446 _ 2).trans (if_neg (by decide))) (fun a _ => by rw [gjj]) gpp ?_ ⟨?_, fun j B hB => ?_⟩ ?_ ?_ (mark_keep i.mark (fun m A sl z => (ok.m m A sl z).2.2) (gne _ 459 (by decide) (by decide)) (gne _ 460 (by decide) (by decide)) (fun x h1' h2' => by rw [g458]; exact low x h2'))
    · rw [g458]
      exact i.ra.move (a := 0) (c := 0) (fun x hx => low _ (by omega))
    · rw [g446, if_pos rfl]
      show nI (u + 1) = nI ((sA s :: sU s).take 8).length
      rw [← eu, List.length_cons, hl]
    · have hB : ((sA s :: sU s).take 8)[j]? = some B := hB
      rw [← eu] at hB
      show RA _ _ (345 * (3 + (((sA s :: sU s).take 8).length - 1 - j))) B
      rw [← eu, List.length_cons, hl, g458, gne _ 460 (by decide) (by decide)]
      cases j with
      | zero =>
        have hB : some (sA s) = some B := hB
        cases hB
        rw [show u + 1 - 1 - 0 = u by omega]
        refine i.ra.move (a := 0) (fun x hx => ?_)
        rw [mvS_at hx]
        exact eS _ (by omega)
      | succ j =>
        rw [List.getElem?_cons_succ] at hB
        have hj := (List.getElem?_eq_some_iff.mp hB).1
        rw [show u + 1 - 1 - (j + 1) = u - 1 - j by omega]
        refine (hR j B hB).move (fun x hx => ?_)
        unfold mvS
        rw [if_neg (by omega)]
    · have se := i.see
      rw [g458]
      exact se.of ok.s.2 (fun x hx => low x (by omega))
    · rw [g446, if_neg (by decide)]; exact i.shut
  refine cv_wp rfl (Nat.le_of_ble_eq_true rfl) rfl (x_X12_keeps ⟨i.la.md.1, ?_⟩)
  rw [p0.1]
  by_cases c8 : (sU s).length = 8
  · rw [c8, if_pos (show nI 8 = 8 from rfl)]
    have key := up_to (P := fun n => ∀ S' : Nat → Int32, (∀ p j, 1 ≤ p → p < n + 1 → j < 320 → S' (345 * (2 + p) + j) = gi h 458 (345 * (3 + p) + j)) → (∀ x, (x < 1035 ∨ 345 * (2 + (n + 1)) ≤ x) → S' x = gi h 458 x) → Wp G (m_X12_keeps, d + 2, 0, 0, fun v h1 => v = none ∧ Q h1) (0, 0) 11 [.ref 446, .int (nI (n + 1))] [] (s8 h S')) 7 (fun n hn ih => ?_) ?_
    · have t := key (gi h 458) (fun p j h1 h2 _ => by omega) (fun x _ => rfl)
      rwa [s8_self] at t
    · intro S' z1 z2
      refine x_X12_keeps_11 ?_
      rw [if_neg (li_no 8 8 rfl (show n + 1 < 8 by omega) (by decide)), (m345 (n + 1) (List.mem_range.mpr (by omega))).1, (m345 (n + 1) (List.mem_range.mpr (by omega))).2.1]
      refine ⟨i.la.md.1, q_moves (d := d) (h := s8 h S') (n := 320) i.la (by omega) (by omega) (by omega) ?_⟩
      rintro _ rfl
      rw [s8_gi, s8_s8, nI_1]
      refine ih _ (fun p j h1 h2 h3 => ?_) (fun x hx => ?_)
      · by_cases q : p = n + 1
        · rw [q, mvS_at h3]
          exact z2 _ (by omega)
        · unfold mvS
          rw [if_neg (by omega)]
          exact z1 p j h1 (by omega) h3
      · unfold mvS
        rw [if_neg (by omega)]
        exact z2 x (by omega)
    · intro S' z1 z2
      refine x_X12_keeps_11 ?_
      rw [if_pos (li_yes 8 8 rfl)]
      refine ⟨i.la.md.1, ?_⟩
      rintro _ rfl
      have e18 : gi (s8 h S') 446 18 = nI 8 := by rw [s8_ne _ _ (by decide), p0.1, c8]
      rw [e18, show nI 8 - 1 = nI 7 from rfl]
      have gs : ∀ v, gi (si (s8 h S') 446 18 v) 458 = S' := fun v => (si_6n (by decide)).trans (s8_gi _ _)
      refine fin 7 ((sU s).take 7) _ (Nat.le_refl _) (by rw [List.length_take, c8]; rfl) ?_ rfl (fun a h1 h2 => (si_6n h1).trans (s8_ne _ _ h2)) (fun k hk => by rw [si_66, if_neg hk, s8_ne _ _ (by decide)]) (by rw [si_66, if_pos rfl]) (fun x hx => by rw [gs]; exact z2 x (Or.inl hx)) rfl rfl rfl (fun j A hA => ?_)
      · rw [List.take_succ_cons]
      · have hj := (List.getElem?_eq_some_iff.mp hA).1
        rw [List.length_take, c8] at hj
        have hj : j < 7 := by omega
        rw [List.getElem?_take_of_lt hj] at hA
        rw [gs]
        have r := p0.2 j A hA
        rw [c8] at r
        refine r.move (fun x hx => ?_)
        have := z1 (7 - j) x (by omega) (by omega) hx
        rw [show 345 * (3 + (7 - 1 - j)) + x = 345 * (2 + (7 - j)) + x by omega, this, show 345 * (3 + (8 - 1 - j)) + x = 345 * (3 + (7 - j)) + x by omega]
  · rw [if_neg (show ¬ nI (sU s).length = 8 from fun q => c8 ((nI_inj (b := 8) (by omega) (by decide)).mp q))]
    exact fin (sU s).length (sU s) h (by omega) rfl (by rw [List.take_of_length_le]; rw [List.length_cons]; omega) rfl (fun _ _ _ => rfl) (fun _ _ => rfl) p0.1 (fun _ _ => rfl) rfl rfl rfl (fun j A hA => p0.2 j A hA)
theorem q_put {x y : Int32} {Q : Int32 → pm_H → Prop} (i : InvR h s) (ok : okSta s w) (hw : w + 1 ≤ 1000) (k : ∀ h', InvR h' (nPut s x y).2 → FrB h h' → Q (nPut s x y).1 h') : ci G (d + 23) m_X12_put [.ref 446, .int x, .int y] h Q := by
  have n3 := ok.n3
  unfold nPut at k
  refine ci_wp rfl (Nat.le_of_ble_eq_true rfl) rfl (x_X12_put ⟨i.la.md.1, ?_⟩)
  rintro h1 e1
  have i1 : InvR h1 s := by rw [e1]; exact i.th
  have f1 : FrB h h1 := by rw [e1]; exact FrB.si (by decide)
  clear e1
  refine q_isItem (d := d + 20) i1 ok.pl ?_
  rcases inB_or (n := pN (sP s)) x (by omega) with c | ⟨t, ht, rfl, c, cx⟩
  · rw [c] at k ⊢; rw [if_neg (by decide)] at k; rw [if_pos b0f]; exact ⟨_, rfl, k h1 i1 f1⟩
  rw [c] at k ⊢; rw [if_pos rfl, cx] at k; rw [if_neg b1t]
  refine ⟨i1.la.md.1, q_isHeap (d := d + 20) i1 ok.pl ?_⟩
  rcases inB_or (n := pHn (sP s)) y (by omega) with c' | ⟨a, ha, rfl, c', cy⟩
  · rw [c'] at k ⊢; rw [if_neg (by decide)] at k; rw [if_pos b0f]; exact ⟨_, rfl, k h1 i1 f1⟩
  rw [c'] at k ⊢; rw [if_pos rfl, cy] at k; rw [if_neg b1t]
  refine ⟨i1.la.md.1, q_isIn (d := d + 21) i1 ok (by omega) ?_⟩
  by_cases c1 : (sA s).2.1 t = -1
  · rw [if_pos c1] at k ⊢
    rw [if_pos rfl]
    refine ⟨i1.la.md.1, q_keeps (d := d + 20) i1 ok (fun h2 i2 f2 => ?_)⟩
    have ok2 := okSta_rem ok
    have t := r_puts (G := G) (d := d) (h := h2) (F := gi h2 456) (P := gi h2 457) (S := gi h2 458) (b := 0) (w := w) (t := t) (a := a) (A := sA s) (tvf := tvP (sP s)) (Q := fun h11 => ∃ r, (some (Value.int 1) : Option Value) = some (.int r) ∧ Q r h11) i2.la.mk (by decide) (by omega) (by omega) hw (tvP_pos _) (InvR_gr (d := d + 17) (s := remS s) i2 ok2) ok.a.1 i2.ra c1 (fun S' F' P' hA hZ => by
      rw [(putA_agr i2.ky.agr.1 ht (by omega) ok.a.lb).1] at hA
      obtain ⟨i3, f3⟩ := InvR_setA (F' := F') (P' := P') i2 ok2 hZ hA
      exact ⟨_, rfl, k _ i3 ((f1.trans f2).trans f3)⟩)
    rw [nf] at t
    exact ⟨i2.la.md.1, t⟩
  · rw [if_neg c1] at k ⊢
    rw [if_neg (by decide)]
    exact ⟨_, rfl, k h1 i1 f1⟩
theorem q_next {a : Nat} {Q : Int32 → pm_H → Prop} (i : InvR h s) (ok : okSta s w) (hw : w ≤ 1000) (ha : a < 3) (k0 : takeA (ltP (sP s)) (sA s) a = none → Q (-1) h) (k1 : takeA (ltP (sP s)) (sA s) a ≠ none → ∀ x, x < 24 → Q (nI x) h) : ci G (d + 2) m_X12_nextRoot [.ref 446, .int 0, .int (nI a)] h Q := by
  have ea := (takeA_agr i.ky.agr.1 ha ok.a.lb).1
  have t := r_nextNone (G := G) (d := d) (S := gi h 458) (b := 0) (ky := gi h 460) (Q := Q) i.la.md (by decide) ha hw ok.a.1 i.ra (fun e => by
    rw [s8_self]; rw [ea] at e; exact k0 e) (fun r x hr e hx ex => by
    rw [s8_self]
    refine k1 (fun z => ?_) x hx
    rw [← ea, takeA_root, e] at z; cases z)
  rwa [s8_self] at t
theorem q_takes {a t : Nat} {A' : AF} {Q : Int32 → pm_H → Prop} (i : InvR h s) (ok : okSta s w) (hw : w ≤ 1000) (ha : a < 3) (e : takeA (ltP (sP s)) (sA s) a = some (t, A')) (k : ∀ h', InvR h' (stA s A') → FrB h h' → Q (nI t) h') : ci G (d + 20) m_X12_takes [.ref 446, .int 0, .int (nI a)] h Q := by
  have ea := (takeA_agr i.ky.agr.1 ha ok.a.lb).1
  have t := r_takes (G := G) (d := d) (h := h) (S := gi h 458) (b := 0) (w := w) (ky := gi h 460) (A := sA s) (Q := Q) i.la.md (by decide) ha hw ok.a.1 i.ra (fun z => by rw [ea, e] at z; cases z) (fun t' A2 z S' hA hZ => by
    rw [ea, e] at z
    cases z
    have r := InvR_setA (F' := gi h 456) (P' := gi h 457) i ok hZ hA
    rw [fp_self] at r
    exact k _ r.1 r.2)
  rwa [s8_self] at t
theorem q_take {x : Int32} {Q : Int32 → pm_H → Prop} (i : InvR h s) (ok : okSta s w) (hw : w ≤ 1000) (k : ∀ h', InvR h' (nTake s x).2 → FrB h h' → Q (nTake s x).1 h') : ci G (d + 21) m_X12_take [.ref 446, .int x] h Q := by
  have n3 := ok.n3
  unfold nTake at k
  refine ci_wp rfl (Nat.le_of_ble_eq_true rfl) rfl (x_X12_take ⟨i.la.md.1, ?_⟩)
  rintro h1 e1
  have i1 : InvR h1 s := by rw [e1]; exact i.th
  have f1 : FrB h h1 := by rw [e1]; exact FrB.si (by decide)
  clear e1
  refine q_isHeap (d := d + 18) i1 ok.pl ?_
  rcases inB_or (n := pHn (sP s)) x (by omega) with c | ⟨a, ha, rfl, c, cx⟩
  · rw [c] at k ⊢; rw [if_neg (by decide)] at k; rw [if_pos b0f]; exact ⟨_, rfl, k h1 i1 f1⟩
  rw [c] at k ⊢; rw [if_pos rfl, cx] at k; rw [if_neg b1t]
  have a3 : a < 3 := by omega
  refine ⟨i1.la.md.1, q_next (d := d + 18) i1 ok hw a3 (fun e => ?_) (fun e x hx => ?_)⟩
  · rw [e] at k
    rw [if_neg (by decide)]
    exact ⟨_, rfl, k h1 i1 f1⟩
  · cases e2 : takeA (ltP (sP s)) (sA s) a with
    | none => exact absurd e2 e
    | some p =>
      rw [e2] at k
      rw [if_pos (nI_0le (by omega))]
      refine ⟨i1.la.md.1, q_keeps (d := d + 18) i1 ok (fun h2 i2 f2 => ⟨i2.la.md.1, q_takes (d := d) (t := p.1) (A' := p.2) i2 (okSta_rem ok) hw a3 e2 (fun h3 i3 f3 => ⟨_, rfl, k h3 i3 ((f1.trans f2).trans f3)⟩)⟩)⟩
theorem q_meld {x y : Int32} {Q : Int32 → pm_H → Prop} (i : InvR h s) (ok : okSta s w) (hw : w ≤ 1000) (k : ∀ h', InvR h' (nMeld s x y).2 → FrB h h' → Q (nMeld s x y).1 h') : ci G (d + 23) m_X12_meld [.ref 446, .int x, .int y] h Q := by
  have n3 := ok.n3
  unfold nMeld at k
  refine ci_wp rfl (Nat.le_of_ble_eq_true rfl) rfl (x_X12_meld ⟨i.la.md.1, ?_⟩)
  rintro h1 e1
  have i1 : InvR h1 s := by rw [e1]; exact i.th
  have f1 : FrB h h1 := by rw [e1]; exact FrB.si (by decide)
  clear e1
  refine q_isHeap (d := d + 20) i1 ok.pl ?_
  rcases inB_or (n := pHn (sP s)) x (by omega) with c | ⟨a, ha, rfl, c, cx⟩
  · rw [c] at k ⊢; rw [if_neg (by decide)] at k; rw [if_pos b0f]; exact ⟨_, rfl, k h1 i1 f1⟩
  rw [c] at k ⊢; rw [if_pos rfl, cx] at k; rw [if_neg b1t]
  refine ⟨i1.la.md.1, q_isHeap (d := d + 20) i1 ok.pl ?_⟩
  rcases inB_or (n := pHn (sP s)) y (by omega) with c' | ⟨b, hb, rfl, c', cy⟩
  · rw [c'] at k ⊢; rw [if_neg (by decide)] at k; rw [if_pos b0f]; exact ⟨_, rfl, k h1 i1 f1⟩
  rw [c'] at k ⊢; rw [if_pos rfl, cy] at k; rw [if_neg b1t]
  by_cases c1 : nI a = nI b
  · rw [if_pos c1] at k ⊢; exact ⟨_, rfl, k h1 i1 f1⟩
  rw [if_neg c1] at k ⊢
  have ab : a ≠ b := fun q => c1 (by rw [q])
  refine ⟨i1.la.md.1, q_keeps (d := d + 20) i1 ok (fun h2 i2 f2 => ?_)⟩
  have ok2 := okSta_rem ok
  have t := r_melds (G := G) (d := d) (h := h2) (F := gi h2 456) (P := gi h2 457) (S := gi h2 458) (b := 0) (w := w) (a := a) (c := b) (N := pN (sP s)) (A := sA s) (tvf := tvP (sP s)) (Q := fun h11 => ∃ r, (some (Value.int 1) : Option Value) = some (.int r) ∧ Q r h11) i2.la.mk i2.hn.2.2.1 n3.2.2 (by decide) (by omega) (by omega) ab hw (tvP_pos _) (InvR_gr (d := d + 17) (s := remS s) i2 ok2) ok.a.1 i2.ra (fun t h1 h2 => (ok.a.out h1 h2).1) (fun S' F' P' hA hZ => by
    rw [(meldA_agr i2.ky.agr.1 (by omega) (by omega) ok.a.lb).1] at hA
    obtain ⟨i3, f3⟩ := InvR_setA (F' := F') (P' := P') i2 ok2 hZ hA
    exact ⟨_, rfl, k _ i3 ((f1.trans f2).trans f3)⟩)
  rw [nf] at t
  exact ⟨i2.la.md.1, t⟩
theorem shl_01 {lt : Nat → Nat → Bool} {kd skd : Nat → Int32} {A : AF} {a x : Nat} (h : takeA lt A a ≠ none) : (shelveA lt kd skd A a x).1 = 0 ∨ (shelveA lt kd skd A a x).1 = 1 := by
  unfold shelveA
  cases e : takeA lt A a with
  | none => exact absurd e h
  | some p =>
    simp only
    split
    · left; rfl
    · split
      · right; rfl
      · left; rfl
theorem q_shelve {x y : Int32} {Q : Int32 → pm_H → Prop} (i : InvR h s) (ok : okSta s w) (hw : w ≤ 1000) (k : ∀ h', InvR h' (nShelve s x y).2 → FrB h h' → Q (nShelve s x y).1 h') : ci G (d + 22) m_X12_shelve [.ref 446, .int x, .int y] h Q := by
  have n3 := ok.n3
  unfold nShelve at k
  refine ci_wp rfl (Nat.le_of_ble_eq_true rfl) rfl (x_X12_shelve ⟨i.la.md.1, ?_⟩)
  rintro h1 e1
  have i1 : InvR h1 s := by rw [e1]; exact i.th
  have f1 : FrB h h1 := by rw [e1]; exact FrB.si (by decide)
  clear e1
  refine q_isHeap (d := d + 19) i1 ok.pl ?_
  rcases inB_or (n := pHn (sP s)) x (by omega) with c | ⟨a, ha, rfl, c, cx⟩
  · rw [c] at k ⊢; rw [if_neg (by decide)] at k; rw [if_pos b0f]; exact ⟨_, rfl, k h1 i1 f1⟩
  rw [c] at k ⊢; rw [if_pos rfl, cx] at k; rw [if_neg b1t]
  have mk := i1.la.mk
  rw [mk.2.2.2.1, show (1 : Int32).toNatClampNeg = 1 from rfl, i1.hn.2.1]
  refine ⟨i1.la.md.1, 180, mk.2.2.2.2, vp_nI (k := 1) (by decide) (by decide), q_withinN (d := d + 20) (by omega) ?_⟩
  rcases inB_or (n := pSs (sP s)) y (by omega) with c' | ⟨b, hb, rfl, c', cy⟩
  · rw [c'] at k ⊢; rw [if_neg (by decide)] at k; rw [if_pos b0f]; exact ⟨_, rfl, k h1 i1 f1⟩
  rw [c'] at k ⊢; rw [if_pos rfl, cy] at k; rw [if_neg b1t]
  have a3 : a < 3 := by omega
  refine ⟨i1.la.md.1, q_next (d := d + 19) i1 ok hw a3 (fun e => ?_) (fun e x hx => ?_)⟩
  · rw [if_pos e] at k
    rw [if_neg (by decide)]
    exact ⟨_, rfl, k h1 i1 f1⟩
  · rw [if_neg e] at k
    rw [if_pos (nI_0le (by omega))]
    refine ⟨i1.la.md.1, q_keeps (d := d + 19) i1 ok (fun h2 i2 f2 => ?_)⟩
    have ok2 := okSta_rem ok
    have ee : shelveA (rLt (gi h2 460)) (fun u => gi h2 452 (7 + 4 * u)) (fun s => gi h2 452 (5 + s)) (sA s) a b = shlA s a b := by
      rw [(shelveA_agr i2.ky.agr.1 a3 ok.a.lb).1]
      refine shelveA_k ok.a a3 hw (fun t ht => ?_) ?_
      · have := (i2.pl.2.2.2.2.2.2.2.2.1 t ht).1; rw [Nat.zero_add] at this; exact this
      · have := i2.pl.2.2.2.2.2.2.2.1 b hb; rw [Nat.zero_add] at this; exact this
    have ea := (takeA_agr i2.ky.agr.1 a3 ok.a.lb).1
    have t := r_shelves (G := G) (d := d) (h := h2) (F := gi h2 456) (P := gi h2 457) (S := gi h2 458) (b := 0) (w := w) (a := a) (s := b) (N := pN (sP s)) (A := sA s) (Q := fun r11 h12 => if r11 = 0 then ∃ r, (some (Value.int 0) : Option Value) = some (.int r) ∧ Q r h12 else ∃ r, (some (Value.int 1) : Option Value) = some (.int r) ∧ Q r h12) i2.la.mk i2.hn.2.2.1 n3.2.2 (by decide) a3 (by omega) hw ok.a.1 ok.a.2.1 i2.ra (fun t h1 h2 => (ok.a.out h1 h2).2) (fun z => e (ea.symm.trans z)) (fun S' hA hZ => by
      rw [ee] at hA ⊢
      obtain ⟨i3, f3⟩ := InvR_setA (F' := gi h2 456) (P' := gi h2 457) i2 ok2 hZ hA
      have k := k _ i3 ((f1.trans f2).trans f3)
      rcases shl_01 (kd := kdP (sP s)) (skd := skP (sP s)) (x := b) e with z | z
      · have z : (shlA s a b).1 = 0 := z
        have k : Q (shlA s a b).1 _ := k
        rw [z] at k ⊢
        rw [if_pos rfl]; exact ⟨_, rfl, k⟩
      · have z : (shlA s a b).1 = 1 := z
        have k : Q (shlA s a b).1 _ := k
        rw [z] at k ⊢
        rw [if_neg (by decide)]; exact ⟨_, rfl, k⟩)
    rw [nf] at t
    exact ⟨i2.la.md.1, t⟩
theorem q_undo {Q : Int32 → pm_H → Prop} (i : InvR h s) (ok : okSta s w) (k : ∀ h', InvR h' (nUndo s).2 → FrB h h' → Q (nUndo s).1 h') : ci G (d + 2) m_X12_undo [.ref 446] h Q := by
  have u8 := ok.u.2
  unfold nUndo at k
  refine ci_wp rfl (Nat.le_of_ble_eq_true rfl) rfl (x_X12_undo ⟨i.la.md.1, ?_⟩)
  rintro h1 e1
  have i1 : InvR h1 s := by rw [e1]; exact i.th
  have f1 : FrB h h1 := by rw [e1]; exact FrB.si (by decide)
  clear e1
  have p0 := i1.past
  rw [p0.1]
  cases e : sU s with
  | nil =>
    rw [e] at k
    rw [if_pos (show nI ([] : List AF).length = 0 from rfl)]
    exact ⟨_, rfl, k h1 i1 f1⟩
  | cons A r =>
    rw [e] at k p0 u8
    rw [List.length_cons] at u8
    rw [if_neg (show ¬ nI (A :: r).length = 0 from nI_neq0 (by rw [List.length_cons]; omega) (by rw [List.length_cons]; omega)), List.length_cons, nI_m1]
    rintro _ rfl
    rw [si_66, if_pos rfl, (m345 r.length (List.mem_range.mpr (by omega))).1]
    refine q_moves (d := d) (h := si h1 446 18 (nI r.length)) (c := 0) (n := 320) i1.la (by omega) (by decide) (by omega) ?_
    rintro _ rfl
    have e458 : gi (si h1 446 18 (nI r.length)) 458 = gi h1 458 := si_6n (by decide)
    rw [e458]
    have gs : gi (s8 (si h1 446 18 (nI r.length)) (mvS (gi h1 458) (345 * (3 + r.length)) 0 320)) 458 = mvS (gi h1 458) (345 * (3 + r.length)) 0 320 := s8_gi _ _
    have gne : ∀ a, a ≠ 446 → a ≠ 458 → gi (s8 (si h1 446 18 (nI r.length)) (mvS (gi h1 458) (345 * (3 + r.length)) 0 320)) a = gi h1 a := fun a h1' h2' => (s8_ne _ _ h2').trans (si_6n h1')
    have g446 : ∀ k, gi (s8 (si h1 446 18 (nI r.length)) (mvS (gi h1 458) (345 * (3 + r.length)) 0 320)) 446 k = if k = 18 then nI r.length else gi h1 446 k := fun k => (congrFun (s8_ne _ _ (by decide)) k).trans si_66
    have hi : ∀ x, 320 ≤ x → mvS (gi h1 458) (345 * (3 + r.length)) 0 320 x = gi h1 458 x := fun x hx => by unfold mvS; rw [if_neg (by omega)]
    refine ⟨_, rfl, k _ ?_ (f1.trans ⟨rfl, fun a ha => gne a (by omega) (by omega), fun _ _ => rfl, rfl, rfl⟩)⟩
    refine InvR_new (h := h1) (s := s) (A' := A) (us' := r) (sl' := sS s) (n' := sN s) (mk' := sM s) i1 rfl (fun a h1' _ _ h2' _ => gne a h1' h2') ((g446 2).trans (if_neg (by decide))) (fun _ _ => rfl) rfl ?_ ⟨?_, fun j B hB => ?_⟩ ?_ ?_ (mark_keep i1.mark (fun m A sl z => (ok.m m A sl z).2.2) (gne 459 (by decide) (by decide)) (gne 460 (by decide) (by decide)) (fun x h1' h2' => by rw [gs]; exact hi x (by omega)))
    · rw [gs]
      have rA := p0.2 0 A rfl
      rw [List.length_cons, show r.length + 1 - 1 - 0 = r.length by omega] at rA
      exact rA.move (c := 0) (fun x hx => by
        have := mvS_at (S := gi h1 458) (a := 345 * (3 + r.length)) (c := 0) (n := 320) hx
        rw [Nat.zero_add] at this ⊢; exact this)
    · rw [g446, if_pos rfl]
    · have hB : r[j]? = some B := hB
      have hj := (List.getElem?_eq_some_iff.mp hB).1
      have rB := p0.2 (j + 1) B (by rw [List.getElem?_cons_succ]; exact hB)
      rw [List.length_cons, show r.length + 1 - 1 - (j + 1) = r.length - 1 - j by omega] at rB
      show RA _ _ (345 * (3 + (r.length - 1 - j))) B
      rw [gs, gne 460 (by decide) (by decide)]
      exact rB.move (fun x hx => hi _ (by omega))
    · have se := i1.see
      rw [gs]
      refine ⟨(hi 320 (by decide)).trans se.1, fun k x hx => ?_⟩
      obtain ⟨a, b, c⟩ := se.2 k x hx
      exact ⟨(hi _ (by omega)).trans a, (hi _ (by omega)).trans b, (hi _ (by omega)).trans c⟩
    · rw [g446, if_neg (by decide)]; exact i1.shut
end QWK
