/-! WHAT IS SHUT BEHIND ITSELF: the reference -/
theorem LwR.of {h h' : pm_H} {P : Pl} (p : LwR h 0 0 P) (e2 : gi h' 452 = gi h 452) (e3 : gi h' 453 = gi h 453) : LwR h' 0 0 P := by
  unfold LwR at p ⊢
  rw [e2, e3]; exact p
def aComes (s : Sta) (x y : Int32) : Option Int32 := if inB (pHn (sP s)) x = true then (if inB (cmL s (ix x)).length y = true then some (nI ((cmL s (ix x)).getD (ix y) 0)) else none) else none
def aAway (s : Sta) (x y : Int32) : Option Int32 := if inB (pHn (sP s)) x = true then (if inB (pN (sP s)) y = true then (if (sA s).2.1 (ix y) = x then some (awayI (ahP (sP s)) (cmL s (ix x)) (ix y)) else none) else none) else none
theorem nfj (h : pm_H) : s8 (fp (sj h (gj h)) (gi h 456) (gi h 457)) (gi h 458) = h := nf h
section QTR
variable {G : pm_G} {d : Nat} {h : pm_H} {s : Sta} {w : Nat}
theorem InvR_gr (i : InvR h s) (ok : okSta s w) : GRc G (d + 3) h (tvP (sP s)) := gr_of i.la i.hn.2.2.2 i.pl.2.2.2.2.2.2.2.2.2 ok.pl ok.pb
theorem InvR_grc (i : InvR h s) (ok : okSta s w) (C : Nat → Int32) : GRc G (d + 3) (co h C) (tvP (sP s)) := gr_of (h := co h C) i.la ((congrFun (co_ne h C (show (452 : Nat) ≠ 461 by decide)) 3).trans i.hn.2.2.2) (i.pl.2.2.2.2.2.2.2.2.2.of (co_ne h C (by decide)) (co_ne h C (by decide))) ok.pl ok.pb
theorem InvR_grj (i : InvR h s) (ok : okSta s w) (J : Nat → Nat → Int64) : GRc G (d + 3) (sj h J) (tvP (sP s)) := gr_of (h := sj h J) i.la i.hn.2.2.2 (i.pl.2.2.2.2.2.2.2.2.2.of rfl rfl) ok.pl ok.pb
theorem InvR.hp (i : InvR h s) : ∀ t, t < 20 → gi h 458 (240 + t) = (sA s).2.1 t := fun t ht => by have := (i.ra.2 t ht).1; rw [Nat.zero_add] at this; exact this
theorem q_all {a : Nat} {Q : Int32 → pm_H → Prop} (i : InvR h s) (ok : okSta s w) (hw : w ≤ 1000) (ha : a < pHn (sP s)) (k : ∀ h', InvR h' s → FrV h h' → OrR (gi h' 461) (cmL s a) → Q (nI (cmL s a).length) h') : ci G (d + 21) m_X12_comesOf [.ref 446, .int 0, .int (nI a)] h Q := by
  have n3 := ok.n3
  have e : comL (rLt (gi h 460)) a (sA s) = cmL s a := comF_agr i.ky.agr.1 (by omega) 20 _ ok.a.lb
  have t := r_comesOf (G := G) (d := d) (F := gi h 456) (P := gi h 457) (S := gi h 458) (C := gi h 461) (Q := Q) (b := 0) (ky := gi h 460) i.la (by decide) (show a < 3 by omega) hw ok.a.1 i.ra (fun S' C' hO hZ => by
    rw [e] at hO ⊢
    have f : FrV h (s8 (fp (co h C') (gi h 456) (gi h 457)) S') := FrV.mc (hZ.ry (by decide))
    exact k _ (i.fv ok f) f (by rw [sfc]; exact hO))
  rwa [nfc] at t
/-- the HEAP is SHUT -/
theorem InvR.shu {h1 : pm_H} (i1 : InvR h1 s) : ∃ h2, h2 = si h1 446 19 (gi h1 446 19 + 1) ∧ InvR h2 (stN s (sN s + 1)) ∧ FrB h1 h2 ∧ h2.1 = h1.1 := ⟨_, rfl, i1.shut1, FrB.si (by decide), rfl⟩
theorem comL_hd {lt : Nat → Nat → Bool} {a : Nat} {A : AF} : hdI (comL lt a A) = match lrF lt A.1 a 24 with
    | none => -1
    | some r => nI (takI (A.1 (24 * a + r))) := by
  show hdI (comF lt a 20 A) = _
  rw [comF]
  unfold takeA
  cases lrF lt A.1 a 24 <;> rfl
theorem q_first {x : Int32} {Q : Int32 → pm_H → Prop} (i : InvR h s) (ok : okSta s w) (hw : w ≤ 1000) (k : ∀ h', InvR h' (shS s x) → FrB h h' → Q (aFirst s x) h') : ci G (d + 20) m_X12_first [.ref 446, .int x] h Q := by
  have n3 := ok.n3
  unfold aFirst at k
  refine ci_wp rfl (Nat.le_of_ble_eq_true rfl) rfl (x_X12_first ⟨i.la.md.1, ?_⟩)
  rintro h1 e1
  have i1 : InvR h1 s := by rw [e1]; exact i.th
  have f1 : FrB h h1 := by rw [e1]; exact FrB.si (by decide)
  clear e1
  refine q_isHeap (d := d + 17) i1 ok.pl ?_
  rcases inB_or (n := pHn (sP s)) x (by omega) with c | ⟨a, ha, rfl, c, cx⟩
  · have k := k h1 (by rw [show shS s x = s from if_neg (by rw [c]; decide)]; exact i1) f1
    rw [c] at k ⊢; rw [if_neg (by decide)] at k; rw [if_pos b0f]; exact ⟨_, rfl, k⟩
  · rw [show shS s (nI a) = stN s (sN s + 1) from if_pos c, if_pos c, cx] at k
    rw [c, if_neg b1t]
    refine ⟨i1.la.md.1, ?_⟩
    rintro h2 e2
    have i2 : InvR h2 (stN s (sN s + 1)) := by rw [e2]; exact i1.shut1
    have f2 : FrB h h2 := f1.trans (by rw [e2]; exact FrB.si (by decide))
    clear e2
    have k := k h2 i2 f2
    have a3 : a < 3 := by omega
    have elr : lrF (rLt (gi h2 460)) (sA s).1 a 24 = lrF (ltP (sP s)) (sA s).1 a 24 := lrF_agr i2.ky.agr.1 a3 ok.a.lb 24 (Nat.le_refl _)
    have t := r_nextNone (G := G) (d := d + 17) (S := gi h2 458) (b := 0) (ky := gi h2 460) (Q := fun v h3 => if 0 ≤ v then h3.1[446]? = some (0, 11) ∧ ci G (d + 19) m_X12_nodeOf [.ref 446, .int 0, .int v, .int 4] h3 (fun r7 h8 => ∃ r, (some (Value.int r7) : Option Value) = some (.int r) ∧ Q r h8) else ∃ r, (some (Value.int (-1)) : Option Value) = some (.int r) ∧ Q r h3) i2.la.md (by decide) a3 hw ok.a.1 i2.ra (fun e => by
      rw [takeA_root, elr] at e
      rw [s8_self, if_neg (by decide)]
      have k : Q (hdI (comL (ltP (sP s)) a (sA s))) h2 := k
      rw [comL_hd, e] at k
      exact ⟨_, rfl, k⟩) (fun r xx hr e hx ex => by
      rw [elr] at e
      rw [s8_self, if_pos (nI_0le (by omega))]
      have k : Q (hdI (comL (ltP (sP s)) a (sA s))) h2 := k
      rw [comL_hd, e] at k
      obtain ⟨hN, -⟩ := i2.rr a r a3 hr
      have hN : NR (gi h2 460) (gi h2 458) 0 ((sA s).1 (24 * a + r)) := hN
      have el := (lrF_ok e).2
      have hTW := (ok.a.wf.2.2.2.2.1 (24 * a + r) (by omega)).1
      obtain ⟨z', kk, u, l, rr, eT⟩ := tr_inner el
      rw [eT] at hN ex hTW
      obtain ⟨⟨nn, -, -⟩, -, -⟩ := hTW
      obtain ⟨k24, m0, m1, m2, m3, m4, -⟩ := hN.1
      have ex : nI kk.1 = nI xx := ex
      have ex := (nI_inj (by omega) (by omega)).mp ex
      rw [Nat.zero_add] at m4
      refine ⟨i2.la.md.1, q_nodeOf (d := d + 18) (v := 4) i2 (by omega) ?_⟩
      rw [← ex, m4]
      have k : Q (nI (takI ((sA s).1 (24 * a + r)))) h2 := k
      rw [eT] at k
      have e9 : hdI (n_ls kk) = nI ((n_ls kk).headD 0) := by
        cases hl : n_ls kk with
        | nil => exact absurd hl nn
        | cons t r => rfl
      rw [e9]
      exact ⟨_, rfl, k⟩)
    rwa [s8_self] at t
theorem lens_nd {a : Nat} (ok : okSta s w) (hw : w ≤ 1000) (ha : a < pHn (sP s)) : (cmL s a).Nodup ∧ ∀ t, t ∈ cmL s a ↔ t < 20 ∧ decide ((sA s).2.1 t = nI a) = true := by
  have n3 := ok.n3
  obtain ⟨a1, a2, -⟩ := okN_com ok.a hw (show a < 3 by omega) (ltP (sP s))
  exact ⟨a1, a2⟩
theorem q_wrongs {x : Int32} {Q : Int32 → pm_H → Prop} (i : InvR h s) (ok : okSta s w) (hw : w ≤ 1000) (k : ∀ h', InvR h' (shS s x) → FrB h h' → Q (aWrongs s x) h') : ci G (d + 22) m_X12_wrongs [.ref 446, .int x] h Q := by
  have n3 := ok.n3
  unfold aWrongs at k
  refine ci_wp rfl (Nat.le_of_ble_eq_true rfl) rfl (x_X12_wrongs ⟨i.la.md.1, ?_⟩)
  rintro h1 e1
  have i1 : InvR h1 s := by rw [e1]; exact i.th
  have f1 : FrB h h1 := by rw [e1]; exact FrB.si (by decide)
  clear e1
  refine q_isHeap (d := d + 19) i1 ok.pl ?_
  rcases inB_or (n := pHn (sP s)) x (by omega) with c | ⟨a, ha, rfl, c, cx⟩
  · have k := k h1 (by rw [show shS s x = s from if_neg (by rw [c]; decide)]; exact i1) f1
    rw [c] at k ⊢; rw [if_neg (by decide)] at k; rw [if_pos b0f]; exact ⟨_, rfl, k⟩
  · rw [show shS s (nI a) = stN s (sN s + 1) from if_pos c, if_pos c, cx] at k
    rw [c, if_neg b1t]
    refine ⟨i1.la.md.1, ?_⟩
    rintro h2 e2
    have i2 : InvR h2 (stN s (sN s + 1)) := by rw [e2]; exact i1.shut1
    have f2 : FrB h h2 := f1.trans (by rw [e2]; exact FrB.si (by decide))
    clear e2
    obtain ⟨l1, l2, l3⟩ := InvC.lens ok hw ha
    refine q_all (d := d) i2 (okSta_stN ok) hw ha (fun h3 i3 f3 hO => ?_)
    have t := r_wrongLoop (G := G) (d := d + 21) (h := h3) (C := gi h3 461) (F := gi h3 456) (P := gi h3 457) (S := gi h3 458) (Q := Q) i3.la hO l2 l1 (by
      rw [nfc, wrF_agr i3.ky.agr.1 l3 _ (Nat.le_refl _)]
      exact k h3 i3 (f2.trans f3.fb))
    rwa [nfc] at t
theorem q_far {x : Int32} {Q : Int32 → pm_H → Prop} (i : InvR h s) (ok : okSta s w) (hw : w ≤ 1000) (k : ∀ h', InvR h' (shS s x) → FrB h h' → Q (aFar s x) h') : ci G (d + 22) m_X12_far [.ref 446, .int x] h Q := by
  have n3 := ok.n3
  unfold aFar at k
  refine ci_wp rfl (Nat.le_of_ble_eq_true rfl) rfl (x_X12_far ⟨i.la.md.1, ?_⟩)
  rintro h1 e1
  have i1 : InvR h1 s := by rw [e1]; exact i.th
  have f1 : FrB h h1 := by rw [e1]; exact FrB.si (by decide)
  clear e1
  refine q_isHeap (d := d + 19) i1 ok.pl ?_
  rcases inB_or (n := pHn (sP s)) x (by omega) with c | ⟨a, ha, rfl, c, cx⟩
  · have k := k h1 (by rw [show shS s x = s from if_neg (by rw [c]; decide)]; exact i1) f1
    rw [c] at k ⊢; rw [if_neg (by decide)] at k; rw [if_pos b0f]; exact ⟨_, rfl, k⟩
  · rw [show shS s (nI a) = stN s (sN s + 1) from if_pos c, if_pos c, cx] at k
    rw [c, if_neg b1t]
    refine ⟨i1.la.md.1, ?_⟩
    rintro h2 e2
    have i2 : InvR h2 (stN s (sN s + 1)) := by rw [e2]; exact i1.shut1
    have f2 : FrB h h2 := f1.trans (by rw [e2]; exact FrB.si (by decide))
    clear e2
    obtain ⟨l1, l2, l3⟩ := InvC.lens ok hw ha
    obtain ⟨d1, d2⟩ := lens_nd ok hw ha
    refine q_all (d := d) i2 (okSta_stN ok) hw ha (fun h3 i3 f3 hO => ?_)
    have t := r_farLoop (G := G) (d := d + 18) (h := h3) (C := gi h3 461) (F := gi h3 456) (P := gi h3 457) (S := gi h3 458) (Q := Q) (hp := (sA s).2.1) i3.la i3.hn.2.2.1 n3.2.2 (show a < 3 by omega) i3.hp (fun t h1 h2 => (ok.a.out h1 h2).1) hO l2 d1 l1 d2 (by
      rw [nfc, farF_agr i3.ky.agr.2 l3 _ (Nat.le_refl _)]
      exact k h3 i3 (f2.trans f3.fb))
    rwa [nfc] at t
theorem q_worthOf {a : Nat} {Q : Int32 → pm_H → Prop} (i : InvR h s) (ok : okSta s w) (hw : w ≤ 1000) (ha : a < pHn (sP s)) (hg : ∀ t, t < pN (sP s) → gf h 16 t = UInt32.ofNat (ksP (sP s) t)) (hO : OrR (gi h 461) (cmL s a)) (k : Q (nI (smP s a)) h) : ci G (d + 4) m_X12_worthOf [.ref 446, .int (nI (cmL s a).length)] h Q := by
  obtain ⟨l1, l2, l3⟩ := InvC.lens ok hw ha
  have t := r_worthOf (G := G) (d := d) (h := h) (C := gi h 461) (F := gi h 456) (P := gi h 457) (S := gi h 458) (Q := Q) (N := pN (sP s)) (ks := ksP (sP s)) i.la (fun t ht => ⟨i.ky t ht, hg t ht, ok.pl.key ht⟩) ok.n3.2.2 hO l1 l3 (by rw [nfc]; exact k)
  rwa [nfc] at t
theorem q_worth {x : Int32} {Q : Int32 → pm_H → Prop} (i : InvR h s) (ok : okSta s w) (hw : w ≤ 1000) (hg : ∀ t, t < pN (sP s) → gf h 16 t = UInt32.ofNat (ksP (sP s) t)) (k : ∀ h', InvR h' (shS s x) → FrB h h' → Q (aWorth s x) h') : ci G (d + 22) m_X12_worth [.ref 446, .int x] h Q := by
  have n3 := ok.n3
  unfold aWorth at k
  refine ci_wp rfl (Nat.le_of_ble_eq_true rfl) rfl (x_X12_worth ⟨i.la.md.1, ?_⟩)
  rintro h1 e1
  have i1 : InvR h1 s := by rw [e1]; exact i.th
  have f1 : FrB h h1 := by rw [e1]; exact FrB.si (by decide)
  clear e1
  refine q_isHeap (d := d + 19) i1 ok.pl ?_
  rcases inB_or (n := pHn (sP s)) x (by omega) with c | ⟨a, ha, rfl, c, cx⟩
  · have k := k h1 (by rw [show shS s x = s from if_neg (by rw [c]; decide)]; exact i1) f1
    rw [c] at k ⊢; rw [if_neg (by decide)] at k; rw [if_pos b0f]; exact ⟨_, rfl, k⟩
  · rw [show shS s (nI a) = stN s (sN s + 1) from if_pos c, if_pos c, cx] at k
    rw [c, if_neg b1t]
    refine ⟨i1.la.md.1, ?_⟩
    rintro h2 e2
    have i2 : InvR h2 (stN s (sN s + 1)) := by rw [e2]; exact i1.shut1
    have f2 : FrB h h2 := f1.trans (by rw [e2]; exact FrB.si (by decide))
    clear e2
    refine q_all (d := d) i2 (okSta_stN ok) hw ha (fun h3 i3 f3 hO => ?_)
    have f9 := f2.trans f3.fb
    exact ⟨i3.la.md.1, q_worthOf (d := d + 17) (s := stN s (sN s + 1)) i3 (okSta_stN ok) hw ha (fun t ht => by rw [f9.2.2.2.1]; exact hg t ht) hO ⟨_, rfl, k h3 i3 f9⟩⟩
theorem q_mean {x : Int32} {Q : Int32 → pm_H → Prop} (i : InvR h s) (ok : okSta s w) (hw : w ≤ 1000) (hg : ∀ t, t < pN (sP s) → gf h 16 t = UInt32.ofNat (ksP (sP s) t)) (k : ∀ h', InvR h' (shS s x) → FrB h h' → Q (aMean s x) h') : ci G (d + 22) m_X12_mean [.ref 446, .int x] h Q := by
  have n3 := ok.n3
  unfold aMean at k
  refine ci_wp rfl (Nat.le_of_ble_eq_true rfl) rfl (x_X12_mean ⟨i.la.md.1, ?_⟩)
  rintro h1 e1
  have i1 : InvR h1 s := by rw [e1]; exact i.th
  have f1 : FrB h h1 := by rw [e1]; exact FrB.si (by decide)
  clear e1
  refine q_isHeap (d := d + 19) i1 ok.pl ?_
  rcases inB_or (n := pHn (sP s)) x (by omega) with c | ⟨a, ha, rfl, c, cx⟩
  · have k := k h1 (by rw [show shS s x = s from if_neg (by rw [c]; decide)]; exact i1) f1
    rw [c] at k ⊢; rw [if_neg (by decide)] at k; rw [if_pos b0f]; exact ⟨_, rfl, k⟩
  · rw [show shS s (nI a) = stN s (sN s + 1) from if_pos c, if_pos c, cx] at k
    rw [c, if_neg b1t]
    refine ⟨i1.la.md.1, ?_⟩
    rintro h2 e2
    have i2 : InvR h2 (stN s (sN s + 1)) := by rw [e2]; exact i1.shut1
    have f2 : FrB h h2 := f1.trans (by rw [e2]; exact FrB.si (by decide))
    clear e2
    obtain ⟨l1, l2, l3⟩ := InvC.lens ok hw ha
    refine q_all (d := d) i2 (okSta_stN ok) hw ha (fun h3 i3 f3 hO => ?_)
    have f9 := f2.trans f3.fb
    have l1' : (cmL s a).length ≤ 20 := l1
    by_cases c0 : (cmL s a).length = 0
    · rw [if_pos c0] at k
      rw [show (cmL (stN s (sN s + 1)) a).length = 0 from c0, if_pos (show nI 0 = 0 from rfl)]
      exact ⟨_, rfl, k h3 i3 f9⟩
    · rw [if_neg c0] at k
      rw [if_neg (nI_neq0 c0 (by show (cmL s a).length < _; omega))]
      refine ⟨i3.la.md.1, q_worthOf (d := d + 17) (s := stN s (sN s + 1)) i3 (okSta_stN ok) hw ha (fun t ht => by rw [f9.2.2.2.1]; exact hg t ht) hO ?_⟩
      obtain ⟨-, x1, x2, x3, x4⟩ := divS_ok (ks := ksP (sP s)) (fun t ht => ok.pl.key ht) l3 rfl c0 l1
      exact r_ofWhole (d := d + 18) (by show (cmL s a).length < _; omega) (r_divides (d := d + 18) x1 x2 x3 x4 ⟨_, rfl, k h3 i3 f9⟩)
theorem q_placeOf {a t : Nat} {Q : Int32 → pm_H → Prop} (i : InvR h s) (ok : okSta s w) (ha : a < 3) (ht : t < pN (sP s)) (k : Q (aheI s a t) h) : ci G (d + 2) m_X12_placeOf [.ref 446, .int 0, .int (nI a), .int (nI t)] h Q := by
  have n3 := ok.n3
  have tt := r_placeOf (G := G) (d := d) (F := gi h 456) (P := gi h 457) (S := gi h 458) (Q := Q) (b := 0) (i := t) (x := nI a) (hp := (sA s).2.1) i.la.mk i.hn.2.2.1 n3.2.2 (by decide) (by omega) (nI_nm1 (by omega)) (fun u hu => (i.ra.2 u hu).1) (fun u h1 h2 => (ok.a.out h1 h2).1) (by
    rw [nf, cnt_agr (q := fun u => ahR (gi h 460) u t) (q' := fun u => ahP (sP s) u t) (fun u hu => i.ky.agr.2 u t hu ht) (fun u hu1 hu2 => by
      rw [(ok.a.out hu1 hu2).1]; exact m1_nI (by omega))]
    exact k)
  rwa [nf] at tt
theorem q_split {x y : Int32} {Q : Int32 → pm_H → Prop} (i : InvR h s) (ok : okSta s w) (hw : w ≤ 1000) (k : ∀ h', InvR h' (shS s x) → FrB h h' → Q (aSplit s x y) h') : ci G (d + 22) m_X12_split [.ref 446, .int x, .int y] h Q := by
  have n3 := ok.n3
  unfold aSplit at k
  refine ci_wp rfl (Nat.le_of_ble_eq_true rfl) rfl (x_X12_split ⟨i.la.md.1, ?_⟩)
  rintro h1 e1
  have i1 : InvR h1 s := by rw [e1]; exact i.th
  have f1 : FrB h h1 := by rw [e1]; exact FrB.si (by decide)
  clear e1
  refine q_isHeap (d := d + 19) i1 ok.pl ?_
  rcases inB_or (n := pHn (sP s)) x (by omega) with c | ⟨a, ha, rfl, c, cx⟩
  · have k := k h1 (by rw [show shS s x = s from if_neg (by rw [c]; decide)]; exact i1) f1
    rw [c] at k ⊢; rw [if_neg (by decide)] at k; rw [if_pos b0f]; exact ⟨_, rfl, k⟩
  · rw [show shS s (nI a) = stN s (sN s + 1) from if_pos c, if_pos c, cx] at k
    rw [c, if_neg b1t]
    refine ⟨i1.la.md.1, ?_⟩
    rintro h2 e2
    have i2 : InvR h2 (stN s (sN s + 1)) := by rw [e2]; exact i1.shut1
    have f2 : FrB h h2 := f1.trans (by rw [e2]; exact FrB.si (by decide))
    clear e2
    obtain ⟨l1, l2, l3⟩ := InvC.lens ok hw ha
    refine q_all (d := d) i2 (okSta_stN ok) hw ha (fun h3 i3 f3 hO => ⟨i3.la.md.1, ?_⟩)
    have k := k h3 i3 (f2.trans f3.fb)
    have t := r_splitOf (G := G) (d := d + 19) (h := h3) (C := gi h3 461) (F := gi h3 456) (P := gi h3 457) (S := gi h3 458) (Q := fun r7 h8 => if r7 < 0 then ∃ r, (some (Value.int (-1)) : Option Value) = some (.int r) ∧ Q r h8 else ci G (d + 21) m_X12_within [.int y, .int 0, .int 1] h8 fun r9 h10 => if r9 = 0 then ∃ r, (some (Value.int (-1)) : Option Value) = some (.int r) ∧ Q r h10 else if y = 0 then ∃ r, (some (Value.int r7) : Option Value) = some (.int r) ∧ Q r h10 else h10.1[446]? = some (0, 11) ∧ ci G (d + 21) m_X12_placeOf [.ref 446, .int 0, .int (nI a), .int r7] h10 fun r11 h12 => ∃ r, (some (Value.int r11) : Option Value) = some (.int r) ∧ Q r h12) i3.la hO l2 l1 (by
      rw [nfc, grL_agr i3.ky.agr.2 _ none _ (fun b hb => by cases hb) l3]
      have k : Q (if inB 2 y = true then (match grL (ahP (sP s)) (thd (cmL s a).length) none (cmL s a) with
        | none => -1
        | some t => if y = 0 then nI t else aheI s a t) else -1) h3 := k
      cases eg : grL (ahP (sP s)) (thd (cmL s a).length) none (cmL s a) with
      | none =>
        rw [eg] at k
        rw [if_pos (show oI none < 0 by decide)]
        have k : Q (if inB 2 y = true then -1 else -1) h3 := k
        refine ⟨_, rfl, ?_⟩
        by_cases z : inB 2 y = true
        · rwa [if_pos z] at k
        · rwa [if_neg z] at k
      | some t =>
        rw [eg] at k
        have k : Q (if inB 2 y = true then (if y = 0 then nI t else aheI s a t) else -1) h3 := k
        have tm : t ∈ cmL s a := (grL_mem eg).elim (fun q => by cases q) id
        have t20 := l2 t tm
        rw [show oI (some t) = nI t from rfl, if_neg (nI_pos (by omega))]
        refine q_within (d := d + 20) (n := 1) (by decide) ?_
        cases eb : inB (1 + 1) y with
        | false =>
          rw [show inB 2 y = false from eb, if_neg (by decide)] at k
          rw [if_pos b0f]; exact ⟨_, rfl, k⟩
        | true =>
          rw [show inB 2 y = true from eb, if_pos rfl] at k
          rw [if_neg b1t]
          by_cases c0 : y = 0
          · rw [if_pos c0] at k ⊢; exact ⟨_, rfl, k⟩
          · rw [if_neg c0] at k ⊢
            exact ⟨i3.la.md.1, q_placeOf (d := d + 19) (s := stN s (sN s + 1)) i3 (okSta_stN ok) (by omega) (l3 t tm) ⟨_, rfl, k⟩⟩)
    rwa [nfc] at t
theorem q_steps {x y : Int32} {Q : Int32 → pm_H → Prop} (i : InvR h s) (ok : okSta s w) (hw : w ≤ 1000) (k : ∀ h', InvR h' (shS s x) → FrB h h' → Q (aSteps s x y) h') : ci G (d + 24) m_X12_steps [.ref 446, .int x, .int y] h Q := by
  have n3 := ok.n3
  unfold aSteps at k
  refine ci_wp rfl (Nat.le_of_ble_eq_true rfl) rfl (x_X12_steps ⟨i.la.md.1, ?_⟩)
  rintro h1 e1
  have i1 : InvR h1 s := by rw [e1]; exact i.th
  have f1 : FrB h h1 := by rw [e1]; exact FrB.si (by decide)
  clear e1
  refine q_isHeap (d := d + 21) i1 ok.pl ?_
  rcases inB_or (n := pHn (sP s)) x (by omega) with c | ⟨a, ha, rfl, c, cx⟩
  · have k := k h1 (by rw [show shS s x = s from if_neg (by rw [c]; decide)]; exact i1) f1
    rw [c] at k ⊢; rw [if_neg (by decide)] at k; rw [if_pos b0f]; exact ⟨_, rfl, k⟩
  · rw [show shS s (nI a) = stN s (sN s + 1) from if_pos c, if_pos c, cx] at k
    rw [c, if_neg b1t]
    refine ⟨i1.la.md.1, ?_⟩
    rintro h2 e2
    have i2 : InvR h2 (stN s (sN s + 1)) := by rw [e2]; exact i1.shut1
    have f2 : FrB h h2 := f1.trans (by rw [e2]; exact FrB.si (by decide))
    clear e2
    have out : ∀ t, pN (sP s) ≤ t → t < 20 → ¬ (sA s).2.1 t = nI a := fun t h1 h2 => by rw [(ok.a.out h1 h2).1]; exact m1_nI (by omega)
    by_cases y0 : 0 ≤ y
    · rw [if_pos y0]
      refine q_selectOf (d := d + 20) (s := stN s (sN s + 1)) i2 (okSta_stN ok) (by omega) ?_
      cases e : fnd (selP (ahP (sP s)) (sA s).2.1 (nI a) y) 20 with
      | none =>
        rw [e] at k
        rw [if_neg (show ¬ 0 ≤ oI none by decide)]
        exact ⟨_, rfl, k h2 i2 f2⟩
      | some g =>
        rw [e] at k
        obtain ⟨g20, b⟩ := fnd_sm e
        unfold selP at b
        rw [Bool.and_eq_true] at b
        have hpg := of_decide_eq_true b.1
        have gN : g < pN (sP s) := by
          by_cases z : g < pN (sP s)
          · exact z
          · exact absurd hpg (out g (by omega) g20)
        rw [show oI (some g) = nI g from rfl, if_pos (nI_0le (by omega))]
        have t := r_stepsTo (G := G) (d := d) (h := h2) (C := gi h2 461) (F := gi h2 456) (P := gi h2 457) (S := gi h2 458) (post := fun v h1 => ∃ r, v = some (.int r) ∧ Q r h1) (tvf := tvP (sP s)) (N := pN (sP s)) (g := g) (a := a) (hp := (sA s).2.1) i2.la i2.hn.2.2.1 n3.2.2 (tvP_pos _) (fun C => InvR_grc (d := d + 17) (s := stN s (sN s + 1)) i2 (okSta_stN ok) C) g20 (by omega) i2.hp (fun t h1 h2 => (ok.a.out h1 h2).1) hpg (fun S' C' F' P' hY => by
          rw [stF_agr2 i2.ky.agr.2 i2.ky.agr.1 (tvP_pos _) gN 20 1 (fun t h1 h2 => decide_eq_false (out t h1 h2))]
          have f : FrV h2 (s8 (fp (co h2 C') F' P') S') := FrV.mc hY
          exact ⟨_, rfl, k _ (i2.fv (okSta_stN ok) f) (f2.trans f.fb)⟩)
        rwa [nfc] at t
    · rw [if_neg y0]
      have e : fnd (selP (ahP (sP s)) (sA s).2.1 (nI a) y) 20 = none := selP_m1 (by
        rw [i_lt0]
        rw [i_le] at y0
        have : (0 : Int32).toInt = 0 := rfl
        omega)
      rw [e] at k
      exact ⟨_, rfl, k h2 i2 f2⟩
theorem q_comes {x y : Int32} {Q : Int32 → pm_H → Prop} (i : InvR h s) (ok : okSta s w) (hw : w ≤ 1000) (k : ∀ h' r, InvR h' (shS s x) → FrB h h' → gi h' 446 0 = (if (aComes s x y).isSome = true then 0 else 1) → (∀ v, aComes s x y = some v → r = v) → Q r h') : ci G (d + 22) m_X12_comes [.ref 446, .int x, .int y] h Q := by
  have n3 := ok.n3
  refine ci_wp rfl (Nat.le_of_ble_eq_true rfl) rfl (x_X12_comes ⟨i.la.md.1, ?_⟩)
  rintro h1 e1
  have i1 : InvR h1 s := by rw [e1]; exact i.th
  have f1 : FrB h h1 := by rw [e1]; exact FrB.si (by decide)
  clear e1
  refine q_isHeap (d := d + 19) i1 ok.pl ?_
  have fin : ∀ (m : Nat) (h3 : pm_H), m ≤ 20 → InvR h3 (shS s x) → FrB h h3 → (inB m y = true → ∃ v, aComes s x y = some v ∧ gi h3 461 (ix y) = v) → (inB m y = false → aComes s x y = none) → Wp G (m_X12_comes, d + 21 + 1, 0, 0, fun v h1 => ∃ r, v = some (.int r) ∧ Q r h1) (0, 0) 32 [.ref 446, .null, .int y, .int (nI m)] [] h3 := by
    intro m h3 hm i3 f3 z1 z0
    refine x_X12_comes_32 (q_withinN (d := d + 20) (by omega) ?_)
    rcases inB_or (n := m) y (by omega) with c | ⟨b, hb, rfl, c, cy⟩
    · rw [c, if_pos b0f]
      refine ⟨i3.la.md.1, ?_⟩
      rintro _ rfl
      rw [si_66, if_pos rfl, if_neg (show ¬ (1 : Int32) ≤ 0 by decide)]
      have e := z0 c
      refine ⟨_, rfl, k _ 0 i3.th (f3.trans (FrB.si (by decide))) ?_ (fun v hv => by rw [e] at hv; cases hv)⟩
      rw [si_66, if_pos rfl, e]; rfl
    · rw [c, if_neg b1t]
      refine ⟨i3.la.md.1, ?_⟩
      rintro _ rfl
      obtain ⟨v, e, ev⟩ := z1 c
      rw [cy] at ev
      have g22 : gp (si h3 446 0 0) 446 22 = 461 := i3.la.com.1
      rw [si_66, if_pos rfl, if_pos (show (0 : Int32) ≤ 0 by decide), g22, cl_nI (show b < 2 ^ 31 by omega), si_6n (by decide), ev]
      refine ⟨20, i3.la.com.2, vp_nI (by omega) (by decide), _, rfl, k _ v i3.th (f3.trans (FrB.si (by decide))) ?_ (fun u hu => by rw [e] at hu; cases hu; rfl)⟩
      rw [si_66, if_pos rfl, e]; rfl
  rcases inB_or (n := pHn (sP s)) x (by omega) with c | ⟨a, ha, rfl, c, cx⟩
  · rw [c, if_pos b0f]
    have ec : aComes s x y = none := by unfold aComes; rw [c, if_neg (by decide)]
    refine fin 0 h1 (by decide) (by rw [show shS s x = s from if_neg (by rw [c]; decide)]; exact i1) f1 (fun q => ?_) (fun _ => ec)
    rcases inB_or (n := 0) y (by decide) with c2 | ⟨b, hb, -⟩
    · rw [c2] at q; cases q
    · exact absurd hb (Nat.not_lt_zero _)
  · rw [c, if_neg b1t]
    refine ⟨i1.la.md.1, ?_⟩
    rintro h2 e2
    have i2 : InvR h2 (stN s (sN s + 1)) := by rw [e2]; exact i1.shut1
    have f2 : FrB h h2 := f1.trans (by rw [e2]; exact FrB.si (by decide))
    clear e2
    obtain ⟨l1, l2, l3⟩ := InvC.lens ok hw ha
    refine q_all (d := d) i2 (okSta_stN ok) hw ha (fun h3 i3 f3 hO => ?_)
    have ec : aComes s (nI a) y = if inB (cmL s a).length y = true then some (nI ((cmL s a).getD (ix y) 0)) else none := by unfold aComes; rw [if_pos c, cx]
    refine fin (cmL s a).length h3 l1 (by rw [show shS s (nI a) = stN s (sN s + 1) from if_pos c]; exact i3) (f2.trans f3.fb) (fun q => ?_) (fun q => by rw [ec, q, if_neg (by decide)])
    rw [ec, if_pos q]
    refine ⟨_, rfl, hO _ ?_⟩
    rcases inB_or (n := (cmL s a).length) y (by omega) with c2 | ⟨b, hb, -, -, cy⟩
    · rw [c2] at q; cases q
    · rw [cy]; exact hb
theorem q_away {x y : Int32} {Q : Int32 → pm_H → Prop} (i : InvR h s) (ok : okSta s w) (hw : w ≤ 1000) (k : ∀ h' r, InvR h' (shS s x) → FrB h h' → gi h' 446 0 = (if (aAway s x y).isSome = true then 0 else 1) → (∀ v, aAway s x y = some v → r = v) → Q r h') : ci G (d + 22) m_X12_away [.ref 446, .int x, .int y] h Q := by
  have n3 := ok.n3
  refine ci_wp rfl (Nat.le_of_ble_eq_true rfl) rfl (x_X12_away ⟨i.la.md.1, ?_⟩)
  rintro h1 e1
  have i1 : InvR h1 s := by rw [e1]; exact i.th
  have f1 : FrB h h1 := by rw [e1]; exact FrB.si (by decide)
  clear e1
  refine q_isHeap (d := d + 19) i1 ok.pl ?_
  rcases inB_or (n := pHn (sP s)) x (by omega) with c | ⟨a, ha, rfl, c, cx⟩
  · rw [c, if_pos b0f]
    have ec : aAway s x y = none := by unfold aAway; rw [c, if_neg (by decide)]
    refine x_X12_away_32 ⟨i1.la.md.1, q_isHeap (d := d + 19) i1 ok.pl ?_⟩
    rw [c, if_pos b0f]
    refine ⟨i1.la.md.1, ?_⟩
    rintro _ rfl
    rw [si_66, if_pos rfl, if_neg (show ¬ (1 : Int32) ≤ 0 by decide)]
    refine ⟨_, rfl, k _ 0 (by rw [show shS s x = s from if_neg (by rw [c]; decide)]; exact i1.th) (f1.trans (FrB.si (by decide))) ?_ (fun v hv => by rw [ec] at hv; cases hv)⟩
    rw [si_66, if_pos rfl, ec]; rfl
  · rw [c, if_neg b1t]
    refine ⟨i1.la.md.1, ?_⟩
    rintro h2 e2
    have i2 : InvR h2 (stN s (sN s + 1)) := by rw [e2]; exact i1.shut1
    have f2 : FrB h h2 := f1.trans (by rw [e2]; exact FrB.si (by decide))
    clear e2
    obtain ⟨l1, l2, l3⟩ := InvC.lens ok hw ha
    obtain ⟨d1, d2⟩ := lens_nd ok hw ha
    rw [show shS s (nI a) = stN s (sN s + 1) from if_pos c] at k
    refine q_all (d := d) i2 (okSta_stN ok) hw ha (fun h3 i3 f3 hO => ?_)
    have f9 := f2.trans f3.fb
    refine x_X12_away_32 ⟨i3.la.md.1, q_isHeap (d := d + 19) i3 ok.pl ?_⟩
    rw [show inB (pHn (sP (stN s (sN s + 1)))) (nI a) = true from c, if_neg b1t]
    refine ⟨i3.la.md.1, q_isItem (d := d + 19) i3 ok.pl ?_⟩
    have bad : aAway s (nI a) y = none → ∀ h8, h8 = si h3 446 0 1 → (if gi h8 446 0 ≤ 0 then ci G (d + 21) m_X12_awayOf [.ref 446, .int (nI a), .int y, .int (nI (cmL s a).length)] h8 fun r9 h10 => ∃ r, (some (Value.int r9) : Option Value) = some (.int r) ∧ Q r h10 else ∃ r, (some (Value.int 0) : Option Value) = some (.int r) ∧ Q r h8) := by
      rintro ec _ rfl
      rw [si_66, if_pos rfl, if_neg (show ¬ (1 : Int32) ≤ 0 by decide)]
      refine ⟨_, rfl, k _ 0 i3.th (f9.trans (FrB.si (by decide))) ?_ (fun v hv => by rw [ec] at hv; cases hv)⟩
      rw [si_66, if_pos rfl, ec]; rfl
    rcases inB_or (n := pN (sP s)) y (by omega) with c2 | ⟨b, hb, rfl, c2, cy⟩
    · rw [show inB (pN (sP (stN s (sN s + 1)))) y = false from c2, if_pos b0f]
      exact ⟨i3.la.md.1, bad (by unfold aAway; rw [if_pos c, c2, if_neg (by decide)])⟩
    · rw [show inB (pN (sP (stN s (sN s + 1)))) (nI b) = true from c2, if_neg b1t, i3.la.md.2.1, show (240 : Int32) = nI 240 from rfl, nI_add, cl_nI (show 240 + b < 2 ^ 31 by omega), i3.hp b (by omega)]
      refine ⟨i3.la.md.1, 4485, i3.la.md.2.2, vp_nI (by omega) (by decide), ?_⟩
      by_cases c3 : (sA s).2.1 b = nI a
      · rw [if_pos (show (sA (stN s (sN s + 1))).2.1 b = nI a from c3)]
        rintro _ rfl
        rw [si_66, if_pos rfl, if_pos (show (0 : Int32) ≤ 0 by decide)]
        have ec : aAway s (nI a) (nI b) = some (awayI (ahP (sP s)) (cmL s a) b) := by unfold aAway; rw [if_pos c, if_pos c2, cy, cx, if_pos c3]
        have i4 : InvR (si h3 446 0 0) (stN s (sN s + 1)) := i3.th
        have e461 : gi (si h3 446 0 0) 461 = gi h3 461 := si_6n (by decide)
        have f4 : FrB h (si h3 446 0 0) := f9.trans (FrB.si (by decide))
        have th : gi (si h3 446 0 0) 446 0 = 0 := by rw [si_66, if_pos rfl]
        generalize si h3 446 0 0 = h4 at *
        have t := r_awayOf (G := G) (d := d + 18) (h := h4) (C := gi h4 461) (F := gi h4 456) (P := gi h4 457) (S := gi h4 458) (b := 0) (N := pN (sP s)) (a := a) (t := b) (hp := (sA s).2.1) (l := cmL s a) (Q := fun r13 h14 => ∃ r, (some (Value.int r13) : Option Value) = some (.int r) ∧ Q r h14) i4.la i4.hn.2.2.1 n3.2.2 (by omega) (by omega) i4.hp (fun t h1 h2 => (ok.a.out h1 h2).1) (by rw [e461]; exact hO) l2 d1 l1 d2 (by
          rw [nfc, away_agr i4.ky.agr.2 l3 hb]
          exact ⟨_, rfl, k h4 _ i4 f4 (by rw [th, ec]; rfl) (fun v hv => by rw [ec] at hv; cases hv; rfl)⟩)
        rwa [nfc] at t
      · rw [if_neg (show ¬ (sA (stN s (sN s + 1))).2.1 b = nI a from c3)]
        exact bad (by unfold aAway; rw [if_pos c, if_pos c2, cy, if_neg c3])
end QTR
