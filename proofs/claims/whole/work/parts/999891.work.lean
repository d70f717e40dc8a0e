/-! WORK: the class -/
section CWL
variable {G : pm_G} {d : Nat} {h : pm_H} {tx : List Nat} {s : Sta} {w : Nat} {P : Pl}
theorem s_workLoop {post : pm_PT} {h0 : pm_H} (hL0 : La h0) (hO : PlO P) {R : PS × List Ln} (h1 : NmC h0 4 (pH P)) (h2 : NmC h0 6 (pSn P)) (h3 : NmC h0 8 (pIn P))
    (fin : ∀ h', FrS wkS h0 h' → CS h' tx R.1 → (R.1.1 = 0 → DW h' R.2 ∧ R.2.length ≤ 30) → post (some (.int (nI (flv R.1)))) h') :
    ∀ (n : Nat) (s : PS) (W : List Ln) (i : Nat) (h : pm_H), wkL P n s W = R → FrS wkS h0 h → CS h tx s → (s.1 = 0 → DW h W ∧ W.length ≤ 30 ∧ s.2.length ≤ n ∧ i + s.2.length ≤ 1001) → i ≤ 1001 → Wp G (m_X5_readWork, d + 7, 0, 0, post) (0, 0) 19 [.ref 55, .ref 3, .ref 48, .int (nI i)] [] h := by
  have stop : ∀ (s : PS) (W : List Ln) (i : Nat) (h : pm_H), (s, W) = R → FrS wkS h0 h → CS h tx s → (s.1 = 0 → (DW h W ∧ W.length ≤ 30) ∧ i + s.2.length ≤ 1001 ∧ (hdT s.2).2.1 = 0) → i ≤ 1001 → Wp G (m_X5_readWork, d + 7, 0, 0, post) (0, 0) 19 [.ref 55, .ref 3, .ref 48, .int (nI i)] [] h := by
    intro s W i h eR hF hC hP hi
    have hL := hF.la hL0
    obtain ⟨r1, r2, r3⟩ := hL.rdr
    have f := fin h hF (by rw [← eR]; exact hC) (fun q => by rw [← eR] at q ⊢; exact (hP q).1)
    rw [← eR] at f
    have c3 := hC.2.2.1
    refine x_X5_readWork_19 ?_
    by_cases ci : (1000 : Int32) < nI i
    · rw [if_pos ci, c3]; exact ⟨r1, f⟩
    · rw [if_neg ci]
      refine ⟨r1, ?_⟩
      by_cases s0 : s.1 = 0
      · rw [if_pos (hC.f0.mpr s0), r2]
        obtain ⟨r, e1, e2, hf⟩ := hC.2.2.2.1.at
        rw [hf.1, (hP s0).2.2, if_pos (show nI 0 = 0 from rfl), c3]
        exact ⟨hL.tap.1, f⟩
      · rw [if_neg (fun q => s0 (hC.f0.mp q)), c3]
        exact f
  intro n
  induction n with
  | zero =>
    intro s W i h eR hF hC hP hi
    refine stop s W i h eR hF hC (fun q => ?_) hi
    have := hC.2.2.2.2.1.at.2.2
    have := (hP q).2.2.1
    omega
  | succ n ih =>
    intro s W i h eR hF hC hP hi
    rw [wkL] at eR
    by_cases c : s.1 = 0 ∧ (hdT s.2).2.1 ≠ 0
    · rw [if_pos c] at eR
      obtain ⟨s0, h0'⟩ := c
      obtain ⟨dw, dl, ln, lni⟩ := hP s0
      have hL := hF.la hL0
      obtain ⟨r1, r2, r3⟩ := hL.rdr
      have l0 := hC.2.2.2.2.1.at.2.2
      obtain ⟨r, e1, e2, hf⟩ := hC.2.2.2.1.at
      have so := hC.2.2.2.2.1.at.1.2.2.2.2
      refine x_X5_readWork_19 ?_
      rw [if_neg (show ¬ (1000 : Int32) < nI i from fun q => by have := (nI_ltI (show 1000 < 2 ^ 31 by decide) (show i < 2 ^ 31 by omega)).mp q; omega)]
      refine ⟨r1, ?_⟩
      rw [if_pos (hC.f0.mpr s0), r2, hf.1, if_neg (show ¬ nI (hdT s.2).2.1 = 0 from fun q => h0' ((nI_inj (b := 0) (show (hdT s.2).2.1 < 2 ^ 31 by omega) (by decide)).mp q))]
      refine ⟨hL.tap.1, s_readWl (d := d) hL hC (hF.nmw (by decide) h1) (hF.nmw (by decide) h2) (hF.nmw (by decide) h3) hO dw dl (fun h' f' c' p' => ?_)⟩
      rw [nI_1]
      by_cases z : (wk3 P W.length s).1 = 0
      · rw [if_pos z] at eR
        have lt := wk_len z
        have l3 := (wk_0 z).2.2.1
        exact ih _ _ (i + 1) h' eR (hF.trans f') c' (fun _ => ⟨p' z, by rw [List.length_append, List.length_singleton]; omega, by omega, by omega⟩) (by omega)
      · rw [if_neg z] at eR
        exact ih _ _ (i + 1) h' eR (hF.trans f') c' (fun q => absurd q z) (by omega)
    · rw [if_neg c] at eR
      refine stop s W i h eR hF hC (fun q => ?_) hi
      refine ⟨⟨(hP q).1, (hP q).2.1⟩, (hP q).2.2.2, ?_⟩
      by_cases z : (hdT s.2).2.1 = 0
      · exact z
      · exact absurd ⟨q, z⟩ c
theorem s_readWork {Q : Int32 → pm_H → Prop} (hL : La h) (hX : TxO tx) (hT : TxC h tx) (hP : PlC h 3 P) (hO : PlO P)
    (w : ∀ h' R, R = wkL P 1001 (0, TT tx 0) [] → FrS wkS h h' → CS h' tx R.1 → (R.1.1 = 0 → DW h' R.2 ∧ R.2.length ≤ 30) → Q (nI (flv R.1)) h') : ci G (d + 7) m_X5_readWork [.ref 55, .ref 3, .ref 48] h Q := by
  obtain ⟨r1, r2, r3⟩ := hL.rdr
  obtain ⟨t1, t2⟩ := TT_ok hX
  have t3 := hX.1
  refine ci_wp rfl (Nat.le_of_ble_eq_true rfl) rfl (x_X5_readWork ⟨r1, ?_⟩)
  rintro _ rfl
  refine ⟨hL.wks.1, ?_⟩
  rintro _ rfl
  have f3 : FrS wkS h (si (si h 55 2 0) 48 3 0) := (FrS.wi (by unfold wkS; omega) (by decide)).trans (FrS.wi (by unfold wkS; omega) (by decide))
  have g2 : gi (si (si h 55 2 0) 48 3 0) 55 2 = 0 := by rw [si_to (by decide), si_on]; exact if_pos rfl
  have g3 : gi (si (si h 55 2 0) 48 3 0) 48 3 = 0 := by rw [si_on]; exact if_pos rfl
  rw [show gp (si (si h 55 2 0) 48 3 0) 55 0 = 1 from r2]
  refine ⟨hL.tap.1, ?_⟩
  have hLX := f3.la hL
  have hTX : TxC (si (si h 55 2 0) 48 3 0) tx := f3.tx (by unfold wkS; omega) hT
  generalize si (si h 55 2 0) 48 3 0 = hX at *
  refine s_begin (d := d + 2) hLX ‹TxO tx› hTX (fun h7 f7 c7 => ?_)
  have fr7 : FrS wkS hX h7 := ⟨f7.1, fun a ha => f7.2.1 a (fun q => ha (Or.inl q)), f7.2.2.1, fun a ha => f7.2.2.2.1 a (fun q => ha (Or.inl q)), fun a _ => congrFun f7.2.2.2.2.1 a, f7.2.2.2.2.2⟩
  have fr := f3.trans fr7
  obtain ⟨n1, n2, n3, -⟩ := hP
  refine s_workLoop (d := d) (post := fun v h1 => ∃ r, v = some (.int r) ∧ Q r h1) (h0 := h) hL hO n1 n2 n3 (R := wkL P 1001 (0, TT tx 0) []) (fun h' a b c => ⟨_, rfl, w h' _ rfl a b c⟩) 1001 (0, TT tx 0) [] 0 h7 rfl fr ⟨‹TxO tx›, f7.tx hTX, (congrFun (f7.2.1 55 (by decide)) 2).trans g2, c7, t1, Nat.zero_le _⟩ (fun _ => ⟨⟨(congrFun (f7.2.1 48 (by decide)) 3).trans g3, fun j q hq => by cases hq⟩, Nat.zero_le _, by show (TT tx 0).length ≤ 1001; omega, by show 0 + (TT tx 0).length ≤ 1001; omega⟩) (by decide)
theorem c_work {Q : Int32 → pm_H → Prop} (i : InvC h s) (ok : okSta s w) (k : ∀ h', InvC h' (nWork s).2 → FrA h h' → Q (nWork s).1 h') : ci G (d + 8) m_X11_work [.ref 0] h Q := by
  obtain ⟨o1, o0, o_1, o_2, o3, o4, o5, o6, o7, o8, o11, o14, o15, o16⟩ := i.la.own
  unfold nWork at k
  refine ci_wp rfl (Nat.le_of_ble_eq_true rfl) rfl (x_X11_work ⟨o1, ?_⟩)
  rw [o5, o_1, o4]
  refine ⟨i.la.rdr.1, s_readWork (d := d) (P := sP s) i.la ok.tx i.tx i.pl ok.pl (fun h2 R eR f2 cs dw => ?_)⟩
  have eR : R = rdW s := eR
  rw [← eR] at k
  clear eR
  have hL2 := f2.la i.la
  obtain ⟨o1, o0, o_1, o_2, o3, o4, o5, o6, o7, o8, o11, o14, o15, o16⟩ := hL2.own
  have fl := flv_lt cs.2.2.2.2.1 cs.2.2.2.2.2
  refine ⟨o1, ?_⟩
  rw [o0]
  refine ⟨hL2.tap.1, ?_⟩
  rintro _ rfl
  have gi2 : ∀ a, a ≠ 1 → a ≠ 55 → ¬ (48 ≤ a ∧ a ≤ 54) → gi (si h2 1 1 0) a = gi h a := fun a x1 x2 x3 => (pm_u_ne _ _ _ x1).trans (f2.2.1 a (by unfold wkS; omega))
  have gj2 : ∀ a, a ≠ 1 → a ≠ 55 → ¬ (48 ≤ a ∧ a ≤ 54) → gj (si h2 1 1 0) a = gj h a := fun a x1 x2 x3 => f2.2.2.2.1 a (by unfold wkS; omega)
  have gf2 : ∀ a, a ≠ 1 → a ≠ 55 → ¬ (48 ≤ a ∧ a ≤ 54) → gf (si h2 1 1 0) a = gf h a := fun a x1 x2 x3 => f2.2.2.2.2.1 a (by unfold wkS; omega)
  have t11 : gi (si h2 1 1 0) 1 1 = 0 := by rw [si_on]; exact if_pos rfl
  have dw2 : R.1.1 = 0 → DW (si h2 1 1 0) R.2 ∧ R.2.length ≤ 30 := fun q => ⟨⟨(si_to (by decide)).trans (dw q).1.1, fun j q' hq => by
    obtain ⟨a, b, c⟩ := (dw q).1.2 j q' hq
    exact ⟨(si_to (by decide)).trans a, (si_to (by decide)).trans b, fun z => (si_to (by decide)).trans (c z)⟩⟩, (dw q).2⟩
  have hL3 : La (si h2 1 1 0) := hL2
  have fa3 : FrA h (si h2 1 1 0) := ⟨f2.1, fun a ha => gi2 a (by omega) (by omega) (by omega), fun a ha => gj2 a (by omega) (by omega) (by omega), f2.2.2.2.2.2⟩
  have g1 : (si h2 1 1 0).1 = h2.1 := rfl
  rw [← g1]
  generalize si h2 1 1 0 = h3 at *
  obtain ⟨i1, i2, i3, i4, i5, i6, i7, i8, i9⟩ := i
  have z0 := gi2 0 (by decide) (by decide) (by omega)
  by_cases c : R.1.1 = 0
  · have e0 : flv R.1 = 0 := fl.2.mpr c
    rw [e0, if_pos (show nI 0 = 0 from rfl)]
    unfold nWorkR at k
    rw [if_pos c] at k
    obtain ⟨dv, dl⟩ := dw2 c
    obtain ⟨o1, o0, o_1, o_2, o3, o4, o5, o6, o7, o8, o11, o14, o15, o16⟩ := hL3.own
    rw [o3, o4]
    refine ⟨hL3.wk.1, s_workCopy (d := d + 5) hL3 (fun h5 a1 a2 a3 a4 a5 => ⟨_, rfl, k h5 ?_ ?_⟩)⟩
    · have e5 : ∀ a, a ≠ 1 → ¬ (41 ≤ a ∧ a ≤ 55) → gi h5 a = gi h a := fun a x1 x2 => (a3 a (by omega) (by omega) (by omega) (by omega)).trans (gi2 a x1 (by omega) (by omega))
      have ej : ∀ a, gj h5 a = gj h3 a := fun a => by show h5.2.2.1 a = _; rw [a2]
      have ef : ∀ a, gf h5 a = gf h3 a := fun a => by show h5.2.2.2.1 a = _; rw [a2]
      have hL5 : La h5 := ⟨a1.trans hL3.1, fun a k hx => by show h5.2.2.2.2 a k = _; rw [a2]; exact hL3.2 a k hx⟩
      refine ⟨hL5, ⟨(congrFun (a3 1 (by decide) (by decide) (by decide) (by decide)) 1).trans t11, fun j hj => absurd hj (Nat.not_lt_zero j)⟩, i3.of (fun a x1 x2 => e5 a (by omega) (by omega)) (fun a x1 x2 => (ej a).trans (gj2 a (by omega) (by omega) (by omega))) (fun a x1 x2 => (ef a).trans (gf2 a (by omega) (by omega) (by omega))), ⟨a4.trans dv.1, fun j q hq => ?_⟩, i5.keep (fun q _ => e5 _ (by omega) (by omega)), i6.of (congrFun (e5 0 (by decide) (by omega)) 12) (congrFun (e5 0 (by decide) (by omega)) 13) (fun a _ _ => e5 a (by omega) (by omega)), i7.of (congrFun (e5 0 (by decide) (by omega)) 9) (e5 129 (by decide) (by omega)), (congrFun (e5 0 (by decide) (by omega)) 10).trans i8, i9.of (fun a _ => e5 a (by omega) (by omega))⟩
      have hj := (List.getElem?_eq_some_iff.mp hq).1
      have hj : j < R.2.length := hj
      obtain ⟨y1, y2, y3⟩ := dv.2 j q hq
      obtain ⟨x1, x2, x3⟩ := a5 j (by omega)
      exact ⟨x1.trans y1, x2.trans y2, fun z => x3.trans (y3 z)⟩
    · refine fa3.trans ⟨a1, fun a ha => a3 a (by omega) (by omega) (by omega) (by omega), fun a _ => by show h5.2.2.1 a = _; rw [a2], fun a k _ => by show h5.2.2.2.2 a k = _; rw [a2]⟩
  · have e0 : ¬ nI (flv R.1) = 0 := fun q => c (fl.2.mp ((nI_inj (b := 0) fl.1 (by decide)).mp q))
    rw [if_neg e0]
    unfold nWorkR at k
    rw [if_neg c] at k
    refine ⟨_, rfl, k h3 ?_ fa3⟩
    exact ⟨hL3, ⟨t11, fun j hj => absurd hj (Nat.not_lt_zero j)⟩, i3.of (fun a x1 x2 => gi2 a (by omega) (by omega) (by omega)) (fun a x1 x2 => gj2 a (by omega) (by omega) (by omega)) (fun a x1 x2 => gf2 a (by omega) (by omega) (by omega)), i4.of (fun a _ => gi2 a (by omega) (by omega) (by omega)), i5.keep (fun q _ => gi2 _ (by omega) (by omega) (by omega)), i6.of (congrFun z0 12) (congrFun z0 13) (fun a _ _ => gi2 a (by omega) (by omega) (by omega)), i7.of (congrFun z0 9) (gi2 129 (by decide) (by decide) (by omega)), (congrFun z0 10).trans i8, i9.of (fun a _ => gi2 a (by omega) (by omega) (by omega))⟩
end CWL
