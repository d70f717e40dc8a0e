/-! A QUEUE: both sides -/
def rdQ (s : Sta) : PS × Pl := qL 1001 (0, TT (sT s) 0) pl0
abbrev qSta (P : Pl) : Sta := ([], P, [], tellF (ltP P) (tvP P) (hmP P) (pN P), [], [], 0, fun _ => none)
def nQueueR (s : Sta) (R : PS × Pl) : Int32 × Sta := if R.1.1 = 0 then (0, qSta R.2) else (nI (flv R.1), stTx s [])
def nQueue (s : Sta) : Int32 × Sta := nQueueR s (rdQ s)
theorem TxO_nil : TxO [] := ⟨Nat.zero_le _, fun x hx => by cases hx⟩
theorem hmP_lt {P : Pl} (h : PlO P) {t : Nat} (ht : t < pN P) : hmP P t < 3 := by
  have a : hmP P t < pHn P := (h.item ht).2.2.2.2
  have b : pHn P ≤ 3 := h.2.2.2.1
  omega
theorem okSta_qR {s : Sta} {w : Nat} {R : PS × Pl} (ok : okSta s w) (hw : 20 ≤ w) (hG : R.1.1 = 0 → PlG R.2 ∧ PlN R.2) (hB : PlB R.2) : okSta (nQueueR s R).2 w := by
  unfold nQueueR
  by_cases c : R.1.1 = 0
  · rw [if_pos c]
    obtain ⟨g, n⟩ := hG c
    have n20 : pN R.2 ≤ 20 := g.1.2.2.2.2.2.1
    refine ⟨TxO_nil, ⟨g, hB⟩, n, ⟨fun q hq => (by cases hq), Nat.zero_le _, fun q hq => (by cases hq)⟩, ?_, fun A hA => (by cases hA), Nat.zero_le _, ⟨fun q hq => (by cases hq), Nat.zero_le _⟩, fun m A sl e => (by cases e)⟩
    exact (okN_tell n20 (tvP_pos _) (pN R.2) (Nat.le_refl _) (fun t ht => hmP_lt g.1 ht)).mono (by omega)
  · rw [if_neg c]; exact okSta_T ok TxO_nil
theorem okSta_queue {s : Sta} {w : Nat} (ok : okSta s w) (hw : 20 ≤ w) (hG : (rdQ s).1.1 = 0 → PlG (rdQ s).2 ∧ PlN (rdQ s).2) : okSta (nQueue s).2 w := okSta_qR ok hw hG (qL_plb ok.tx)
theorem CO_eq {c c' : Nat → Int32} : ∀ {ops : List (Nat × Nat)} {i : Nat}, CO c i ops → (∀ j, i ≤ j → j < i + ops.length → c' j = c j) → CO c' i ops
  | [], _, _, _ => trivial
  | o :: r, i, ⟨h1, h2⟩, e => ⟨(e i (Nat.le_refl _) (by rw [List.length_cons]; omega)).trans h1, CO_eq h2 (fun j h1 h2 => e j (by omega) (by rw [List.length_cons]; omega))⟩
section QUE
variable {G : pm_G} {d : Nat} {h : pm_H} {s : Sta} {w : Nat} {P : Pl}
theorem La.pcp (hL : La h) : (gp h 22 3 = 29 ∧ gp h 22 4 = 31 ∧ gp h 22 5 = 33 ∧ gp h 3 5 = 14) ∧ (Ro h 29 30 2 ∧ Ro h 31 32 20 ∧ Ro h 33 34 20 ∧ Ro h 14 15 20) ∧ ((gp h 4 0 = 5 ∧ h.1[5]? = some (2, 3)) ∧ (gp h 6 0 = 7 ∧ h.1[7]? = some (2, 2)) ∧ (gp h 8 0 = 9 ∧ h.1[9]? = some (2, 20))) := ⟨⟨hL.p (by decide +kernel) (by omega), hL.p (by decide +kernel) (by omega), hL.p (by decide +kernel) (by omega), hL.p (by decide +kernel) (by omega)⟩, ⟨hL.ro (by decide +kernel) (by decide +kernel) (by decide +kernel) (by decide), hL.ro (by decide +kernel) (by decide +kernel) (by decide +kernel) (by decide), hL.ro (by decide +kernel) (by decide +kernel) (by decide +kernel) (by decide), hL.ro (by decide +kernel) (by decide +kernel) (by decide +kernel) (by decide)⟩, ⟨hL.p (by decide +kernel) (by omega), hL.k (by decide +kernel)⟩, ⟨hL.p (by decide +kernel) (by omega), hL.k (by decide +kernel)⟩, ⟨hL.p (by decide +kernel) (by omega), hL.k (by decide +kernel)⟩⟩
theorem s_planCopy {Q : pm_H → Prop} (hL : La h) (hP : PlC h 22 P) (hO : PlO P) (k : ∀ h', h'.1 = h.1 → (∀ a, ¬ (3 ≤ a ∧ a ≤ 19) → gi h' a = gi h a) → (∀ a, ¬ (3 ≤ a ∧ a ≤ 19) → gj h' a = gj h a) → gp h' = gp h → PlC h' 3 P → Q h') : cv G (d + 3) m_X4_copyFrom [.ref 3, .ref 22] h Q := by
  obtain ⟨d1, d2, d3, d4, ⟨e1, e2, e3⟩, ⟨e4, e5, e6⟩, ⟨e7, e8, e9⟩⟩ := hL.pl
  obtain ⟨p1, p2, p3, p4, p5, p6, p7⟩ := hL.pln
  obtain ⟨q1, q2, q3, q4, -⟩ := hL.rws
  obtain ⟨⟨g1, g2, g3, g4⟩, ⟨r1, r2, r3, r4⟩, ⟨n1, n2⟩, ⟨n3, n4⟩, ⟨n5, n6⟩⟩ := hL.pcp
  obtain ⟨c1, c2, c3, c4, c5, c6, c7, c8⟩ := hP
  have l2 : (pSn P).length ≤ 2 := by unfold pSn; rw [List.length_map]; exact hO.2.2.2.2.1
  have l3 : (pIn P).length ≤ 20 := by unfold pIn; rw [List.length_map]; exact hO.2.2.2.2.2.1
  have l4 := hO.2.2.2.2.1
  have l5 := hO.2.2.2.2.2.1
  have ll := hO.2.2.2.2.2.2.2.2.1
  refine cv_wp rfl (Nat.le_of_ble_eq_true rfl) rfl (x_X4_copyFrom ?_)
  rw [p2, d2]
  refine ⟨p1, d1, p5, s_ncopy (d := d) (o := 4) (o2 := 23) p5 n1 n2 e1 e2 e3 c1 hO.2.2.2.1 (by decide) (by decide) (fun h2 a1 a2 a3 a4 a5 a6 => ?_)⟩
  rw [a1, a5, p3, d3]
  have c2' : NmC h2 25 (pSn P) := c2.of (a2 25 (by decide)) (a3 26 (by decide))
  refine ⟨p1, d1, p6, s_ncopy (d := d) (h := h2) (o := 6) (o2 := 25) (by rw [a1]; exact p6) (by rw [a5]; exact n3) (by rw [a1]; exact n4) (by rw [a1]; exact e4) (by rw [a5]; exact e5) (by rw [a1]; exact e6) c2' l2 (by decide) (by decide) (fun h4 b1 b2 b3 b4 b5 b6 => ?_)⟩
  rw [b1, a1, b5, a5, p4, d4]
  have c3' : NmC h4 27 (pIn P) := c3.of ((b2 27 (by decide)).trans (a2 27 (by decide))) ((b3 28 (by decide)).trans (a3 28 (by decide)))
  have b1' := b1.trans a1
  have b5' := b5.trans a5
  refine ⟨p1, d1, p7, s_ncopy (d := d) (h := h4) (o := 8) (o2 := 27) (by rw [b1']; exact p7) (by rw [b5']; exact n5) (by rw [b1']; exact n6) (by rw [b1']; exact e7) (by rw [b5']; exact e8) (by rw [b1']; exact e9) c3' l3 (by decide) (by decide) (fun h6 f1 f2 f3 f4 f5 f6 => ?_)⟩
  have f1' := f1.trans b1'
  have f5' := f5.trans b5'
  have hL6 : La h6 := ⟨f1'.trans hL.1, fun a k hx => by rw [f5']; exact hL.2 a k hx⟩
  have gi6 : ∀ a, a ≠ 4 → a ≠ 6 → a ≠ 8 → gi h6 a = gi h a := fun a x1 x2 x3 => (f2 a x3).trans ((b2 a x2).trans (a2 a x1))
  have gj6 : ∀ a, a ≠ 5 → a ≠ 7 → a ≠ 9 → gj h6 a = gj h a := fun a x1 x2 x3 => (f3 a x3).trans ((b3 a x2).trans (a3 a x1))
  have gf6 : gf h6 = gf h := f4.trans (b4.trans a4)
  have nm1 : NmC h6 4 (pH P) := a6.of ((f2 4 (by decide)).trans (b2 4 (by decide))) ((f3 5 (by decide)).trans (b3 5 (by decide)))
  have nm2 : NmC h6 6 (pSn P) := b6.of (f2 6 (by decide)) (f3 7 (by decide))
  clear a1 a2 a3 a4 a5 a6 b1 b2 b3 b4 b5 b6 c2' c3' b1' b5' f1 f2 f3 f4 f5 h2 h4
  obtain ⟨d1, d2, d3, d4, -⟩ := hL6.pl
  obtain ⟨p1, p2, p3, p4, p5, p6, p7⟩ := hL6.pln
  obtain ⟨q1, q2, q3, q4, -⟩ := hL6.rws
  obtain ⟨⟨g1, g2, g3, g4⟩, ⟨r1, r2, r3, r4⟩, -⟩ := hL6.pcp
  rw [q1, g1]
  refine ⟨p1, d1, q3.1, row_copy (d := d + 1) q3 r1 rfl ?_⟩
  have u1 : ∀ M : Nat → Nat → Int32, gp (sm h6 M) 3 4 = 12 := fun _ => q2
  have u2 : ∀ M : Nat → Nat → Int32, gp (sm h6 M) 22 4 = 31 := fun _ => g2
  have u3 : ∀ M : Nat → Nat → Int32, gp (sm h6 M) 3 5 = 14 := fun _ => g4
  have u4 : ∀ M : Nat → Nat → Int32, gp (sm h6 M) 22 5 = 33 := fun _ => g3
  rw [u1, u2]
  refine ⟨p1, d1, q4.1, row_copy (d := d + 1) (h := sm h6 (cpM (gi h6) 11 30 2)) q4 r2 rfl ?_⟩
  have v3 : ∀ M M' : Nat → Nat → Int32, gp (sm (sm h6 M) M') 3 5 = 14 := fun _ _ => g4
  have v4 : ∀ M M' : Nat → Nat → Int32, gp (sm (sm h6 M) M') 22 5 = 33 := fun _ _ => g3
  rw [v3, v4]
  refine ⟨p1, d1, r4.1, row_copy (d := d + 1) (h := sm (sm h6 (cpM (gi h6) 11 30 2)) (cpM (gi (sm h6 (cpM (gi h6) 11 30 2))) 13 32 20)) r4 r3 rfl ?_⟩
  have gM : ∀ a, a ≠ 11 → a ≠ 13 → a ≠ 15 → cpM (cpM (cpM (gi h6) 11 30 2) 13 32 20) 15 34 20 a = gi h6 a := fun a x1 x2 x3 => (cp_ne x3).trans ((cp_ne x2).trans (cp_ne x1))
  have m11 : ∀ j, j < 2 → cpM (cpM (cpM (gi h6) 11 30 2) 13 32 20) 15 34 20 11 j = gi h6 30 j := fun j hj => by rw [cp_ne (by decide), cp_ne (by decide), cp_at hj]
  have m13 : ∀ j, j < 20 → cpM (cpM (cpM (gi h6) 11 30 2) 13 32 20) 15 34 20 13 j = gi h6 32 j := fun j hj => by rw [cp_ne (by decide), cp_at hj, cp_ne (by decide)]
  have m15 : ∀ j, j < 20 → cpM (cpM (cpM (gi h6) 11 30 2) 13 32 20) 15 34 20 15 j = gi h6 34 j := fun j hj => by rw [cp_at hj, cp_ne (by decide), cp_ne (by decide)]
  have eX : sm (sm (sm h6 (cpM (gi h6) 11 30 2)) (cpM (gi (sm h6 (cpM (gi h6) 11 30 2))) 13 32 20)) (cpM (gi (sm (sm h6 (cpM (gi h6) 11 30 2)) (cpM (gi (sm h6 (cpM (gi h6) 11 30 2))) 13 32 20))) 15 34 20) = sm h6 (cpM (cpM (cpM (gi h6) 11 30 2) 13 32 20) 15 34 20) := rfl
  rw [eX]
  generalize cpM (cpM (cpM (gi h6) 11 30 2) 13 32 20) 15 34 20 = M at *
  refine s_plan68 (d := d) (h := sm h6 M) hL6 (fun h9 z1 z2 z3 z4 z5 z6 z7 z8 z9 => ?_)
  have z2' : ∀ a, a ≠ 3 → a ≠ 17 → a ≠ 19 → gi h9 a = M a := z2
  have gi9 : ∀ a, ¬ (3 ≤ a ∧ a ≤ 19) → gi h9 a = gi h a := fun a ha => (z2' a (by omega) (by omega) (by omega)).trans ((gM a (by omega) (by omega) (by omega)).trans (gi6 a (by omega) (by omega) (by omega)))
  have gj9 : gj h9 = gj h6 := z3
  have gi2 : ∀ a, 22 ≤ a → a ≤ 38 → M a = gi h a := fun a x1 x2 => (gM a (by omega) (by omega) (by omega)).trans (gi6 a (by omega) (by omega) (by omega))
  refine k h9 (z1.trans f1') gi9 (fun a ha => by rw [gj9]; exact gj6 a (by omega) (by omega) (by omega)) (z4.trans f5') ?_
  refine ⟨nm1.of ((z2' 4 (by decide) (by decide) (by decide)).trans (gM 4 (by decide) (by decide) (by decide))) (by rw [gj9]), nm2.of ((z2' 6 (by decide) (by decide) (by decide)).trans (gM 6 (by decide) (by decide) (by decide))) (by rw [gj9]), f6.of ((z2' 8 (by decide) (by decide) (by decide)).trans (gM 8 (by decide) (by decide) (by decide))) (by rw [gj9]), fun j hj => ?_, fun j hj => ⟨?_, ?_, ?_⟩, ?_, ?_, ?_⟩
  · show gi h9 11 j = _
    rw [z2' 11 (by decide) (by decide) (by decide), m11 j (by omega), gi6 30 (by decide) (by decide) (by decide)]
    exact c4 j hj
  · show gi h9 13 j = _
    rw [z2' 13 (by decide) (by decide) (by decide), m13 j (by omega), gi6 32 (by decide) (by decide) (by decide)]
    exact (c5 j hj).1
  · show gi h9 15 j = _
    rw [z2' 15 (by decide) (by decide) (by decide), m15 j (by omega), gi6 34 (by decide) (by decide) (by decide)]
    exact (c5 j hj).2.1
  · show gf h9 16 j = _
    rw [z6 j (by omega)]
    show gf h6 35 j = _
    rw [gf6]
    exact (c5 j hj).2.2
  · show gi h9 17 1 = _
    rw [z8]
    show M 36 1 = _
    rw [gi2 36 (by decide) (by decide)]
    exact c6
  · show CO (gi h9 19) 0 (pLw P)
    refine CO_eq c7 (fun j _ hj => ?_)
    rw [z9 j (by omega)]
    show M 38 j = _
    rw [gi2 38 (by decide) (by decide)]
  · show gi h9 3 8 = _
    rw [z7]
    show M 22 8 = _
    rw [gi2 22 (by decide) (by decide)]
    exact c8
theorem s_readQ {Q : Int32 → pm_H → Prop} (hL : La h) (hO : TxO (sT s)) (hT : TxC h (sT s)) (w : ∀ h', FrS drS h h' → CS h' (sT s) (rdQ s).1 → ((rdQ s).1.1 = 0 → PlC h' 22 (rdQ s).2 ∧ PlG (rdQ s).2) → Q (nI (flv (rdQ s).1)) h') : ci G (d + 7) m_X5_readQueue [.ref 55, .ref 22] h Q := s_readQueue (Q := Q) hL hO hT w
theorem c_queue {Q : Int32 → pm_H → Prop} (i : InvC h s) (ok : okSta s w) (k : ∀ h', InvC h' (nQueue s).2 → FrA h h' → ((rdQ s).1.1 = 0 → PlG (rdQ s).2) → Q (nQueue s).1 h') : ci G (d + 8) m_X11_queue [.ref 0] h Q := by
  obtain ⟨o1, o0, o_1, o_2, o3, o4, o5, o6, o7, o8, o11, o14, o15, o16⟩ := i.la.own
  unfold nQueue at k
  refine ci_wp rfl (Nat.le_of_ble_eq_true rfl) rfl (x_X11_queue ⟨o1, ?_⟩)
  rw [o5, o_2]
  refine ⟨i.la.rdr.1, s_readQ (d := d) (s := s) i.la ok.tx i.tx (fun h2 f2 cs pg => ?_)⟩
  generalize rdQ s = R at *
  have hL2 := f2.la i.la
  obtain ⟨o1, o0, o_1, o_2, o3, o4, o5, o6, o7, o8, o11, o14, o15, o16⟩ := hL2.own
  have fl := flv_lt cs.2.2.2.2.1 cs.2.2.2.2.2
  refine ⟨o1, ?_⟩
  rw [o0]
  refine ⟨hL2.tap.1, ?_⟩
  rintro _ rfl
  have gi2 : ∀ a, a ≠ 1 → ¬ (22 ≤ a ∧ a ≤ 38) → a ≠ 55 → a ≠ 56 → a ≠ 58 → gi (si h2 1 1 0) a = gi h a := fun a x1 x2 x3 x4 x5 => (pm_u_ne _ _ _ x1).trans (f2.2.1 a (by unfold drS; omega))
  have gj2 : ∀ a, a ≠ 1 → ¬ (22 ≤ a ∧ a ≤ 38) → a ≠ 55 → a ≠ 56 → a ≠ 58 → gj (si h2 1 1 0) a = gj h a := fun a x1 x2 x3 x4 x5 => f2.2.2.2.1 a (by unfold drS; omega)
  have gf2 : ∀ a, a ≠ 1 → ¬ (22 ≤ a ∧ a ≤ 38) → a ≠ 55 → a ≠ 56 → a ≠ 58 → gf (si h2 1 1 0) a = gf h a := fun a x1 x2 x3 x4 x5 => f2.2.2.2.2.1 a (by unfold drS; omega)
  have t11 : gi (si h2 1 1 0) 1 1 = 0 := by show pm_u (gi h2) 1 1 0 1 1 = 0; rw [pm_u_at]; exact if_pos rfl
  have pl22 : R.1.1 = 0 → PlC (si h2 1 1 0) 22 R.2 := fun q => (pg q).1.of (fun a x1 x2 => pm_u_ne _ _ _ (by omega)) (fun _ _ _ => rfl) (fun _ _ _ => rfl)
  have hL3 : La (si h2 1 1 0) := hL2
  have fa3 : FrA h (si h2 1 1 0) := ⟨f2.1, fun a ha => gi2 a (by omega) (by omega) (by omega) (by omega) (by omega), fun a ha => gj2 a (by omega) (by omega) (by omega) (by omega) (by omega), f2.2.2.2.2.2⟩
  have g1 : (si h2 1 1 0).1 = h2.1 := rfl
  rw [← g1]
  generalize si h2 1 1 0 = h3 at *
  obtain ⟨i1, i2, i3, i4, i5, i6, i7, i8, i9⟩ := i
  by_cases c : R.1.1 = 0
  · have e0 : flv R.1 = 0 := fl.2.mpr c
    rw [e0, if_pos (show nI 0 = 0 from rfl)]
    unfold nQueueR at k
    rw [if_pos c] at k
    obtain ⟨p22, pgg⟩ := pg c
    have p22 := pl22 c
    obtain ⟨o1, o0, o_1, o_2, o3, o4, o5, o6, o7, o8, o11, o14, o15, o16⟩ := hL3.own
    rw [o_1, o_2]
    refine ⟨hL3.pln.1, s_planCopy (d := d + 4) (P := R.2) hL3 p22 pgg.1 (fun h5 a1 a2 a3 a4 a5 => ?_)⟩
    have hL5 : La h5 := ⟨a1.trans hL3.1, fun a k hx => by rw [a4]; exact hL3.2 a k hx⟩
    obtain ⟨o1, o0, o_1, o_2, o3, o4, o5, o6, o7, o8, o11, o14, o15, o16⟩ := hL5.own
    rw [o6]
    have n20 : pN R.2 ≤ 20 := pgg.1.2.2.2.2.2.1
    have h8 : gi h5 8 1 = nI (pN R.2) := by
      have := a5.2.2.1.1
      unfold pIn at this
      rw [List.length_map] at this
      exact this
    have tv : TVc G d h5 (tvP R.2) := tv_of hL5 pgg.1 a5.2.2.2.2.2.1 a5.2.2.2.2.2.2.1 a5.2.2.2.2.2.2.2
    refine ⟨o1, (fa_of hL5 (by decide)).1, s_tell (d := d) (n := pN R.2) (hm := hmP R.2) hL5 (by decide) (tvP_pos _) tv h8 n20 (fun t ht => ⟨hmP_lt pgg.1 ht, (a5.2.2.2.2.1 t ht).2.1⟩) (fun M7 hC hX => ?_)⟩
    rw [(tellF_agr (a5.agr pgg.1).1 _ (Nat.le_refl _) (fun t ht => hmP_lt pgg.1 ht)).1] at hC
    rw [show gp (sm h5 M7) 0 3 = 41 from o3]
    refine ⟨o1, hL5.wk.1, ?_⟩
    rintro _ rfl _ rfl _ rfl _ rfl
    rw [show gp (si (si (si (si (sm h5 M7) 41 3 0) 0 9 0) 0 13 0) 0 10 0) 0 16 = 134 from o16]
    obtain ⟨-, -, -, -, -, -, r7, -⟩ := hL5.rws
    refine ⟨r7.1, row_fill (d := d + 6) (h := si (si (si (si (sm h5 M7) 41 3 0) 0 9 0) 0 13 0) 0 10 0) r7 ?_⟩
    -- what stands then
    have e41 : ∀ j, gi (si (si (si (si (sm h5 M7) 41 3 0) 0 9 0) 0 13 0) 0 10 0) 41 j = if j = 3 then 0 else M7 41 j := fun j => by
      rw [si_0n (by decide), si_0n (by decide), si_0n (by decide)]
      show pm_u M7 41 3 0 41 j = _
      rw [pm_u_at]; rfl
    have e00 : ∀ j, gi (si (si (si (si (sm h5 M7) 41 3 0) 0 9 0) 0 13 0) 0 10 0) 0 j = if j = 10 then 0 else if j = 13 then 0 else if j = 9 then 0 else M7 0 j := fun j => by
      rw [si_00, si_00, si_00]
      have : gi (si (sm h5 M7) 41 3 0) 0 = M7 0 := pm_u_ne M7 3 0 (show (0 : Nat) ≠ 41 by decide)
      rw [this]
    have ene : ∀ a, a ≠ 0 → a ≠ 41 → gi (si (si (si (si (sm h5 M7) 41 3 0) 0 9 0) 0 13 0) 0 10 0) a = M7 a := fun a x1 x2 => (si_0n x1).trans ((si_0n x1).trans ((si_0n x1).trans (pm_u_ne _ _ _ x2)))
    have gx : ∀ a, a ≠ 135 → fillM (gi (si (si (si (si (sm h5 M7) 41 3 0) 0 9 0) 0 13 0) 0 10 0)) 135 2 (-1) a = gi (si (si (si (si (sm h5 M7) 41 3 0) 0 9 0) 0 13 0) 0 10 0) a := fun a ha => by
      funext j
      unfold fillM
      rw [if_neg (fun z => ha z.1)]
    have g135 : ∀ j, j < 2 → fillM (gi (si (si (si (si (sm h5 M7) 41 3 0) 0 9 0) 0 13 0) 0 10 0)) 135 2 (-1) 135 j = -1 := fun j hj => by
      unfold fillM
      rw [if_pos ⟨rfl, hj⟩]
    have m7 : ∀ a, (a < 61 ∨ 90 ≤ a) → a ≠ 21 → M7 a = gi h5 a := fun a ha hb => hX a (fun q _ => by omega) hb
    have eh : ∀ a, (a < 61 ∨ 90 ≤ a) → a ≠ 21 → a ≠ 0 → a ≠ 41 → a ≠ 135 → fillM (gi (si (si (si (si (sm h5 M7) 41 3 0) 0 9 0) 0 13 0) 0 10 0)) 135 2 (-1) a = gi h5 a := fun a x1 x2 x3 x4 x5 => (gx a x5).trans ((ene a x3 x4).trans (m7 a x1 x2))
    obtain ⟨nw, p1, p2, p3, p4⟩ := i6
    have z12 : gi h5 0 12 = nI nw := (congrFun (a2 0 (by omega)) 12).trans ((congrFun (gi2 0 (by decide) (by omega) (by decide) (by decide) (by decide)) 12).trans p2)
    have gC : CF (fillM (gi (si (si (si (si (sm h5 M7) 41 3 0) 0 9 0) 0 13 0) 0 10 0)) 135 2 (-1)) 59 (tellF (ltP R.2) (tvP R.2) (hmP R.2) (pN R.2)) := hC.keep fun q hq => (gx _ (by omega)).trans (ene _ (by omega) (by omega))
    refine ⟨_, rfl, k _ ?_ ?_ (fun _ => pgg)⟩
    · refine ⟨hL5, ⟨?_, fun j hj => absurd hj (Nat.not_lt_zero j)⟩, a5.of (fun a x1 x2 => eh a (by omega) (by omega) (by omega) (by omega) (by omega)) (fun _ _ _ => rfl) (fun _ _ _ => rfl), ⟨?_, fun j q hq => by cases hq⟩, gC, ⟨nw, p1, ?_, ?_, fun j A hA => by cases hA⟩, ⟨?_, fun j q hq => by cases hq⟩, ?_, fun m hm => ⟨fun _ => g135 m hm, fun A sl e => by cases e⟩⟩
      · show fillM (gi (si (si (si (si (sm h5 M7) 41 3 0) 0 9 0) 0 13 0) 0 10 0)) 135 2 (-1) 1 1 = _
        rw [eh 1 (by omega) (by decide) (by decide) (by decide) (by decide), a2 1 (by omega)]
        exact t11
      · show fillM (gi (si (si (si (si (sm h5 M7) 41 3 0) 0 9 0) 0 13 0) 0 10 0)) 135 2 (-1) 41 3 = _
        rw [gx 41 (by decide), e41, if_pos rfl]; rfl
      · show fillM (gi (si (si (si (si (sm h5 M7) 41 3 0) 0 9 0) 0 13 0) 0 10 0)) 135 2 (-1) 0 12 = _
        rw [gx 0 (by decide), e00, if_neg (by decide), if_neg (by decide), if_neg (by decide), m7 0 (by omega) (by decide)]
        exact z12
      · show fillM (gi (si (si (si (si (sm h5 M7) 41 3 0) 0 9 0) 0 13 0) 0 10 0)) 135 2 (-1) 0 13 = _
        rw [gx 0 (by decide), e00, if_neg (by decide), if_pos rfl]; rfl
      · show fillM (gi (si (si (si (si (sm h5 M7) 41 3 0) 0 9 0) 0 13 0) 0 10 0)) 135 2 (-1) 0 9 = _
        rw [gx 0 (by decide), e00, if_neg (by decide), if_neg (by decide), if_pos rfl]; rfl
      · show fillM (gi (si (si (si (si (sm h5 M7) 41 3 0) 0 9 0) 0 13 0) 0 10 0)) 135 2 (-1) 0 10 = _
        rw [gx 0 (by decide), e00, if_pos rfl]; rfl
    · refine fa3.trans ⟨a1, fun a ha => (eh a (by omega) (by omega) (by omega) (by omega) (by omega)).trans (a2 a (by omega)), fun a ha => a3 a (by omega), fun a k _ => by
        show gp h5 a k = _
        rw [a4]⟩
  · have e0 : ¬ nI (flv R.1) = 0 := fun q => c (fl.2.mp ((nI_inj (b := 0) fl.1 (by decide)).mp q))
    rw [if_neg e0]
    unfold nQueueR at k
    rw [if_neg c] at k
    refine ⟨_, rfl, k h3 ?_ fa3 (fun q => absurd q c)⟩
    have z0 := gi2 0 (by decide) (by omega) (by decide) (by decide) (by decide)
    exact ⟨hL3, ⟨t11, fun j hj => absurd hj (Nat.not_lt_zero j)⟩, i3.of (fun a x1 x2 => gi2 a (by omega) (by omega) (by omega) (by omega) (by omega)) (fun a x1 x2 => gj2 a (by omega) (by omega) (by omega) (by omega) (by omega)) (fun a x1 x2 => gf2 a (by omega) (by omega) (by omega) (by omega) (by omega)), i4.of (fun a _ => gi2 a (by omega) (by omega) (by omega) (by omega) (by omega)), i5.keep (fun q _ => gi2 _ (by omega) (by omega) (by omega) (by omega) (by omega)), i6.of (congrFun z0 12) (congrFun z0 13) (fun a _ _ => gi2 a (by omega) (by omega) (by omega) (by omega) (by omega)), i7.of (congrFun z0 9) (gi2 129 (by decide) (by omega) (by decide) (by decide) (by decide)), (congrFun z0 10).trans i8, i9.of (fun a _ => gi2 a (by omega) (by omega) (by omega) (by omega) (by omega))⟩
end QUE
