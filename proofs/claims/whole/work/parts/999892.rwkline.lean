/-! WORK: the reference -/
def FrWk (h h' : pm_H) : Prop := FrQ h h' ∧ gi h' 452 = gi h 452 ∧ gi h' 453 = gi h 453 ∧ gj h' 454 = gj h 454 ∧ ∀ j, j < 95 → gi h' 455 j = gi h 455 j
theorem FrWk.rfl' {h : pm_H} : FrWk h h := ⟨FrQ.rfl', rfl, rfl, rfl, fun _ _ => rfl⟩
theorem FrWk.trans {h h1 h2 : pm_H} (a : FrWk h h1) (b : FrWk h1 h2) : FrWk h h2 := ⟨a.1.trans b.1, b.2.1.trans a.2.1, b.2.2.1.trans a.2.2.1, b.2.2.2.1.trans a.2.2.2.1, fun j hj => (b.2.2.2.2 j hj).trans (a.2.2.2.2 j hj)⟩
theorem FrWk.la {h h' : pm_H} (f : FrWk h h') (hL : La h) : La h' := f.1.la hL
theorem FrP.w {h h' : pm_H} (f : FrP h h') : FrWk h h' := ⟨f.1, f.2.1, f.2.2.2.1, f.2.2.2.2.1, fun j _ => congrFun f.2.2.1 j⟩
theorem FrWk.w5 {h : pm_H} {k : Nat} {v : Int32} (hk : 95 ≤ k) : FrWk h (si h 455 k v) := by
  have n : ∀ a, a ≠ 455 → gi (si h 455 k v) a = gi h a := fun a ha => pm_u_ne _ _ _ ha
  refine ⟨⟨rfl, fun a ha => n a (by omega), fun j _ _ _ => congrFun (n 446 (by decide)) j, fun _ _ => rfl, rfl, rfl⟩, n 452 (by decide), n 453 (by decide), rfl, fun j hj => ?_⟩
  rw [si_on, if_neg (by omega)]
theorem RS.w5 {h : pm_H} {L : List Tk} {s : PS} {k : Nat} {v : Int32} (hR : RS h L s) (hk : 95 ≤ k) : RS (si h 455 k v) L s := hR.keep (FrWk.w5 hk).1 (si_to (by decide)) (si_to (by decide))
theorem PlR.w {h h' : pm_H} {P : Pl} (hP : PlR h 0 0 0 P) (f : FrWk h h') : PlR h' 0 0 0 P := hP.same f.2.1 f.2.2.1 f.2.2.2.1
def DR (h : pm_H) (W : List Ln) : Prop := ∀ i q, W[i]? = some q → gi h 455 (95 + 3 * i) = nI q.1 ∧ gi h 455 (95 + 3 * i + 1) = nI q.2.1 ∧ (q.1 ≠ 1 → gi h 455 (95 + 3 * i + 2) = nI q.2.2)
theorem DR.of {h h' : pm_H} {W : List Ln} (hD : DR h W) (e : ∀ j, j < 95 + 3 * W.length → gi h' 455 j = gi h 455 j) : DR h' W := by
  intro i q hq
  obtain ⟨a, b, c⟩ := hD i q hq
  have li := (List.getElem?_eq_some_iff.mp hq).1
  exact ⟨(e _ (by omega)).trans a, (e _ (by omega)).trans b, fun z => (e _ (by omega)).trans (c z)⟩
theorem DR.snoc {h : pm_H} {W : List Ln} {q : Ln} (hD : DR h W) (a : gi h 455 (95 + 3 * W.length) = nI q.1) (b : gi h 455 (95 + 3 * W.length + 1) = nI q.2.1) (c : q.1 ≠ 1 → gi h 455 (95 + 3 * W.length + 2) = nI q.2.2) : DR h (W ++ [q]) := by
  intro i q' hq
  by_cases e : i = W.length
  · rw [e, List.getElem?_append_right (Nat.le_refl _), Nat.sub_self] at hq
    have hq : q = q' := by simpa using hq
    rw [e, ← hq]
    exact ⟨a, b, c⟩
  · have li := (List.getElem?_eq_some_iff.mp hq).1
    rw [List.length_append, List.length_singleton] at li
    rw [List.getElem?_append_left (by omega)] at hq
    exact hD i q' hq
theorem i95 (n : Nat) : (95 : Int32) + 3 * nI n = nI (95 + 3 * n) := by rw [show (95 : Int32) = nI 95 from rfl, show (3 : Int32) = nI 3 from rfl, pk_mul, nI_add]
theorem wh_deed {s : PS} (f : s.1 = 0) : wh s 7 4 = if deK (hdT s.2) = 4 then none else some (deK (hdT s.2)) := by
  have e : wh s 7 4 = if (decide (s.1 = 0) && tW (rwd 10) (hdT s.2)) = true then some 3 else if (decide (s.1 = 0) && tW (rwd 9) (hdT s.2)) = true then some 2 else if (decide (s.1 = 0) && tW (rwd 8) (hdT s.2)) = true then some 1 else if (decide (s.1 = 0) && tW (rwd 7) (hdT s.2)) = true then some 0 else none := rfl
  rw [e, decide_eq_true f, Bool.true_and, Bool.true_and, Bool.true_and, Bool.true_and, show rwd 10 = 11 from rfl, show rwd 9 = 10 from rfl, show rwd 8 = 9 from rfl, show rwd 7 = 8 from rfl, tW_w (by decide), tW_w (by decide), tW_w (by decide), tW_w (by decide)]
  simp only [decide_eq_true_iff]
  unfold deK
  by_cases a : wcl (hdT s.2) = 8
  · rw [a]; rfl
  · by_cases b : wcl (hdT s.2) = 9
    · rw [b]; rfl
    · by_cases c : wcl (hdT s.2) = 10
      · rw [c]; rfl
      · rw [if_neg a, if_neg b, if_neg c, if_neg c, if_neg b, if_neg a]
        by_cases g : wcl (hdT s.2) = 11
        · rw [g]; rfl
        · rw [if_neg g, if_neg g]; rfl
theorem wk3_flt {P : Pl} {n : Nat} {s : PS} (h : (wk0 n s).1 ≠ 0) : wk3 P n s = wk0 n s := by
  have e1 : wk1 P n s = wk0 n s := (stp_sm _ _).2 h
  have e2 : wk2 P n s = wk0 n s := by
    unfold wk2
    split
    · exact e1
    · rw [e1]; exact (stp_sm _ _).2 h
  unfold wk3
  rw [e2]; exact (stp_sm _ _).2 h
section RWK
variable {G : pm_G} {d : Nat} {h : pm_H} {L : List Tk} {s : PS} {P : Pl} {W : List Ln}
theorem r_itemsP {N : Nat} {Q : Int32 → pm_H → Prop} (hL : La h) (hN : gi h 452 2 = nI N) (k : Q (nI N) h) : ci G (d + 1) m_X12_items [.ref 446] h Q := by
  have t := r_items (G := G) (d := d) (F := gi h 456) (P := gi h 457) (S := gi h 458) (Q := Q) hL.mk hN (by rw [nf]; exact k)
  rwa [nf] at t
theorem r_heapsP {N : Nat} {Q : Int32 → pm_H → Prop} (hL : La h) (hN : gi h 452 0 = nI N) (k : Q (nI N) h) : ci G (d + 1) m_X12_heaps [.ref 446] h Q := by
  have t := r_heaps (G := G) (d := d) (F := gi h 456) (P := gi h 457) (S := gi h 458) (Q := Q) hL.mk hN (by rw [nf]; exact k)
  rwa [nf] at t
theorem r_toldFlt {b n c : Int32} {Q : Int32 → pm_H → Prop} (hL : La h) (hR : RS h L s) (f : s.1 ≠ 0) (k : ∀ h' r, FrP h h' → RS h' L s → Q r h') : ci G (d + 4) m_X12_takeTold [.ref 446, .int b, .int n, .int c] h Q := by
  have i4 := hR.at.choose_spec.2.2.2.2.2
  refine ci_wp rfl (Nat.le_of_ble_eq_true rfl) rfl (x_X12_takeTold ⟨hL.md.1, ?_⟩)
  rw [if_neg (fun q => f (i4.mp q))]
  refine x_X12_takeTold_19 ⟨hL.md.1, ?_⟩
  rw [if_neg (fun q => f (hR.le0.mp q)), if_neg (fun q => f (i4.mp q)), if_neg (fun q => f (i4.mp q))]
  obtain ⟨a2, b2⟩ := hR.stay
  refine x_X12_takeTold_76 ⟨hL.md.1, ?_⟩
  rw [if_neg (fun q => f (hR.le0.mp q))]
  rintro _ rfl
  rw [if_neg (fun q => f (b2.le0.mp q))]
  exact ⟨_, rfl, k _ _ a2 b2⟩
theorem r_workLine {post : pm_PT} (hL : La h) (hR : RS h L s) (s0 : s.1 = 0) (h0 : (hdT s.2).2.1 ≠ 0) (hP : PlR h 0 0 0 P) (hO : PlO P) (hd : PlN P) (hD : DR h W) (hn : W.length ≤ 30)
    (kk : ∀ h' v, FrWk h h' → RS h' L (wk3 P W.length s) → ((wk3 P W.length s).1 = 0 → v = nI (W.length + 1) ∧ DR h' (W ++ [wkQ P W.length s])) → Wp G (m_X12_work, d + 5, 0, 0, post) (0, 0) 11 [.ref 446, .int v, .null, .null, .null] [] h') : Wp G (m_X12_work, d + 5, 0, 0, post) (0, 0) 11 [.ref 446, .int (nI W.length), .null, .null, .null] [] h := by
  have l3 : (pH P).length ≤ 3 := hO.2.2.2.1
  have l2 : (pSn P).length ≤ 2 := by unfold pSn; rw [List.length_map]; exact hO.2.2.2.2.1
  have l20 : (pIn P).length ≤ 20 := by unfold pIn; rw [List.length_map]; exact hO.2.2.2.2.2.1
  have kl := deK_le (hdT s.2)
  have kr : deK (hdT s.2) ≠ 4 → ∀ j, j < 5 → (nI (deK (hdT s.2)) = nI j ↔ deK (hdT s.2) = j) := fun _ j hj => nI_inj (by omega) (by omega)
  -- behind the last name
  have fin : ∀ h8 : pm_H, FrWk h h8 → RS h8 L (wk2 P W.length s) → ((wk2 P W.length s).1 = 0 → DR h8 (W ++ [wkQ P W.length s])) → (h8.1[446]? = some (0, 11)) ∧ cv G (d + 4) m_X12_takeSign [.ref 446, .int 59] h8 fun h10 => Wp G (m_X12_work, d + 5, 0, 0, post) (0, 0) 11 [.ref 446, .int (nI W.length + 1), .null, .null, .null] [] h10 := by
    intro h8 f8 r8 d8
    have hL8 := f8.la hL
    refine ⟨hL8.md.1, r_takeSign (d := d + 2) (e := 0) (c := 59) hL8 r8 (by decide) (fun h2 f2 b2 c2 e2 => ?_)⟩
    have fp := (f2.p c2 e2).w
    rw [nI_1]
    refine kk h2 _ (f8.trans fp) b2 (fun q => ⟨rfl, ?_⟩)
    have z : (wk2 P W.length s).1 = 0 := (stp_0 (show (stp (semi (wk2 P W.length s)) (wk2 P W.length s)).1 = 0 from q)).2.1
    refine (d8 z).of (fun j _ => ?_)
    exact congrFun f2.2.2.1 j
  -- behind the first name
  have m115 : ∀ (h1 : pm_H) (v : Int32), deK (hdT s.2) ≠ 4 → W.length < 30 → FrWk h h1 → RS h1 L (wk1 P W.length s) → DR h1 W → gi h1 455 (95 + 3 * W.length) = nI (deK (hdT s.2)) → ((wk1 P W.length s).1 = 0 → v = nI (wkQ P W.length s).2.1 ∧ (deK (hdT s.2) = 2 → v = oI (idN (pH P) (hdT (wk0 W.length s).2)))) → Wp G (m_X12_work, d + 5, 0, 0, post) (0, 0) 115 [.ref 446, .int (nI W.length), .int (nI (deK (hdT s.2))), .int (95 + 3 * nI W.length), .null] [.int v] h1 := by
    intro h1 v k4 n30 f1 r1 d1 e1 hv
    have hL1 := f1.la hL
    have kr := kr k4
    refine x_X12_work_115 ⟨hL1.md.1, ?_⟩
    rw [i95, hL1.ln.1, nI_1, show (2 : Int32) = nI 2 from rfl, nI_add, cl_nI (show 95 + 3 * W.length + 1 < 2 ^ 31 by omega), cl_nI (show 95 + 3 * W.length + 2 < 2 ^ 31 by omega)]
    refine ⟨190, hL1.ln.2, vp_nI (by omega) (by decide), ?_⟩
    rintro h2 e2
    have fa : FrWk h1 h2 := by rw [e2]; exact FrWk.w5 (by omega)
    have ra : RS h2 L (wk1 P W.length s) := by rw [e2]; exact r1.w5 (by omega)
    have da : DR h2 W := d1.of (fun j hj => by rw [e2, si_on, if_neg (by omega)])
    have ea : gi h2 455 (95 + 3 * W.length) = nI (deK (hdT s.2)) := by rw [e2, si_on, if_neg (by omega)]; exact e1
    have eb : gi h2 455 (95 + 3 * W.length + 1) = v := by rw [e2, si_on, if_pos rfl]
    have hL2 := fa.la hL1
    have f2 := f1.trans fa
    have p2 := hP.w f2
    clear e2
    -- behind the second name
    have two : ∀ (h6 : pm_H) (r : Int32), deK (hdT s.2) ≠ 1 → FrP h2 h6 → RS h6 L (wk2 P W.length s) → ((wk2 P W.length s).1 = 0 → r = oI (idN (wkM P (deK (hdT s.2))) (hdT (wk1 P W.length s).2))) → ∃ n7 : Nat, h6.1[gp h2 446 14]? = some (1, n7) ∧ (vp_in (nI (95 + 3 * W.length + 2)) n7) ∧ ∀ h8 : pm_H, h8 = si h6 (gp h2 446 14) (95 + 3 * W.length + 2) r → (h6.1[446]? = some (0, 11)) ∧ cv G (d + 4) m_X12_takeSign [.ref 446, .int 59] h8 fun h10 => Wp G (m_X12_work, d + 5, 0, 0, post) (0, 0) 11 [.ref 446, .int (nI W.length + 1), .null, .null, .null] [] h10 := by
      intro h6 r k1 f6 r6 hr
      have hL6 := f6.la hL2
      rw [hL2.ln.1]
      refine ⟨190, hL6.ln.2, vp_nI (by omega) (by decide), ?_⟩
      rintro h8 e8
      have f8 : FrWk h6 h8 := by rw [e8]; exact FrWk.w5 (by omega)
      have r8 : RS h8 L (wk2 P W.length s) := by rw [e8]; exact r6.w5 (by omega)
      have cc : (wk2 P W.length s).1 = 0 → DR h8 (W ++ [wkQ P W.length s]) := by
        intro q
        have q' := q
        unfold wk2 at q'
        rw [if_neg k1] at q'
        obtain ⟨ok, p1, -⟩ := stp_0 (show (stp _ (wk1 P W.length s)).1 = 0 from q')
        obtain ⟨n1, ⟨y, y1, y2⟩, -⟩ := old_0 ok
        have g5 : gi h6 455 = gi h2 455 := f6.2.2.1
        refine (da.of (fun j hj => ?_)).snoc ?_ ?_ (fun _ => ?_)
        · rw [e8, si_on, if_neg (by omega), g5]
        · rw [e8, si_on, if_neg (by omega), g5]; exact ea
        · rw [e8, si_on, if_neg (by omega), g5, eb]; exact (hv p1).1
        · rw [e8, si_on, if_pos rfl, hr q, y1]
          unfold wkQ
          rw [if_neg k1, y1]; rfl
      exact ⟨hL6.md.1, (fin h8 (f2.trans (f6.w.trans f8)) r8 cc).2⟩
    by_cases k0 : deK (hdT s.2) = 0
    · rw [if_pos (show nI (deK (hdT s.2)) = 0 from (kr 0 (by decide)).mpr k0)]
      refine r_heapsP (d := d + 3) (N := (pH P).length) hL2 p2.1 ⟨hL2.md.1, ?_⟩
      have eM : wkM P (deK (hdT s.2)) = pH P := if_neg (by omega)
      refine r_takeTold (d := d) (b := 0) (but := none) hL2 ra p2.2.2.2.2.1 hO.1 hd.1 (by omega) (fun x hx => by cases hx) (fun h6 r f6 r6 hr => two h6 r (by omega) f6 ?_ (fun q => ?_))
      · unfold wk2 wkB
        rw [if_neg (by omega), if_neg (by omega), eM]; exact r6
      · unfold wk2 wkB at q
        rw [if_neg (by omega), if_neg (by omega), eM] at q
        rw [eM]; exact hr q
    rw [if_neg (show ¬ nI (deK (hdT s.2)) = 0 from fun q => k0 ((kr 0 (by decide)).mp q))]
    by_cases k2 : deK (hdT s.2) = 2
    · rw [if_pos (show nI (deK (hdT s.2)) = nI 2 from (kr 2 (by decide)).mpr k2)]
      refine r_heapsP (d := d + 3) (N := (pH P).length) hL2 p2.1 ⟨hL2.md.1, ?_⟩
      have eM : wkM P (deK (hdT s.2)) = pH P := if_neg (by omega)
      have e2 : wk2 P W.length s = oOld (pH P) (idN (pH P) (hdT (wk0 W.length s).2)) (wk1 P W.length s) := by
        unfold wk2 wkB
        rw [if_neg (by omega), if_pos k2, eM]
      by_cases z : (wk1 P W.length s).1 = 0
      · rw [(hv z).2 k2]
        refine r_takeTold (d := d) (b := 0) (but := idN (pH P) (hdT (wk0 W.length s).2)) hL2 ra p2.2.2.2.2.1 hO.1 hd.1 (by omega) (fun x hx => by have := idN_lt hx; omega) (fun h6 r f6 r6 hr => two h6 r (by omega) f6 (by rw [e2]; exact r6) (fun q => ?_))
        rw [e2] at q
        rw [eM]; exact hr q
      · refine r_toldFlt (d := d) hL2 ra z (fun h6 r f6 r6 => two h6 r (by omega) f6 ?_ (fun q => ?_))
        · rw [e2, show oOld (pH P) (idN (pH P) (hdT (wk0 W.length s).2)) (wk1 P W.length s) = wk1 P W.length s from (stp_sm _ _).2 z]; exact r6
        · rw [e2, show oOld (pH P) (idN (pH P) (hdT (wk0 W.length s).2)) (wk1 P W.length s) = wk1 P W.length s from (stp_sm _ _).2 z] at q
          exact absurd q z
    rw [if_neg (show ¬ nI (deK (hdT s.2)) = nI 2 from fun q => k2 ((kr 2 (by decide)).mp q))]
    by_cases k3 : deK (hdT s.2) = 3
    · rw [if_pos (show nI (deK (hdT s.2)) = 3 from (kr 3 (by decide)).mpr k3)]
      have eM : wkM P (deK (hdT s.2)) = pSn P := if_pos k3
      have e2 : wk2 P W.length s = oOld (pSn P) none (wk1 P W.length s) := by
        unfold wk2 wkB
        rw [if_neg (by omega), if_neg k2, eM]
      obtain ⟨m1, m2, m3, m4⟩ := hL2.nms
      have p21 : gi h2 452 1 = nI (pSn P).length := by unfold pSn; rw [List.length_map]; exact p2.2.1
      rw [m3, show (1 : Int32).toNatClampNeg = 1 from rfl, p21]
      refine ⟨180, hL1.nms.2.2.2, vp_nI (k := 1) (by decide) (by decide), ?_⟩
      refine r_takeTold (d := d) (b := 3) (but := none) hL2 ra p2.2.2.2.2.2.1 hO.2.1 hd.2.1 (by omega) (fun x hx => by cases hx) (fun h6 r f6 r6 hr => two h6 r (by omega) f6 (by rw [e2]; exact r6) (fun q => ?_))
      rw [e2] at q
      rw [eM]; exact hr q
    rw [if_neg (show ¬ nI (deK (hdT s.2)) = 3 from fun q => k3 ((kr 3 (by decide)).mp q)), hL2.ln.1]
    have k1 : deK (hdT s.2) = 1 := by omega
    refine ⟨190, hL1.ln.2, vp_nI (by omega) (by decide), ?_⟩
    rintro h8 e8
    have e2 : wk2 P W.length s = wk1 P W.length s := by unfold wk2; rw [if_pos k1]
    obtain ⟨-, c⟩ := fin h8 (f2.trans (by rw [e8]; exact FrWk.w5 (by omega))) (by rw [e2, e8]; exact ra.w5 (by omega)) (fun q => by
      rw [e2] at q
      refine (da.of (fun j hj => ?_)).snoc ?_ ?_ (fun z => absurd k1 z)
      · rw [e8, si_on, if_neg (by omega)]
      · rw [e8, si_on, if_neg (by omega)]; exact ea
      · rw [e8, si_on, if_neg (by omega), eb]; exact (hv q).1)
    exact c
  obtain ⟨i, i1, i2, i3, ⟨t1, t2, t3, t4, t5⟩, tk, i4⟩ := hR.at
  obtain ⟨p1, p4, p5, p6, q7, q8, q9, q0⟩ := hL.tok
  have so := tk.2.2.2.2
  refine x_X12_work_11 ⟨hL.md.1, ?_⟩
  rw [if_pos (i4.mpr s0), p4, i2, cl_nI (show i < 2 ^ 31 by omega), t1]
  refine ⟨1002, q8, vp_nI (by omega) (by decide), ?_⟩
  rw [if_neg (show ¬ nI (hdT s.2).2.1 = 0 from fun q => h0 ((nI_inj (b := 0) (show (hdT s.2).2.1 < 2 ^ 31 by omega) (by decide)).mp q))]
  refine r_wordHere (d := d + 2) (f := 7) (many := 4) hL hR (by decide) ?_
  rw [wh_deed s0]
  by_cases k4 : deK (hdT s.2) = 4
  · rw [if_pos k4, if_neg (show ¬ (0 : Int32) ≤ oI none by decide)]
    have e0 : wk0 W.length s = stp 1 s := by unfold wk0 wkE; rw [if_pos k4]
    have n1 : ¬ (wk0 W.length s).1 = 0 := by rw [e0]; unfold stp; rw [if_pos s0, if_neg (by decide)]; exact (show ¬ (1 : Nat) = 0 by decide)
    have e3 : wk3 P W.length s = stp 1 s := (wk3_flt n1).trans e0
    refine ⟨hL.md.1, rp_wrong (d := d + 3) (kd := 1) hL hR (by decide) (by decide) (fun h' a b => ?_)⟩
    have hL' := a.la hL
    refine ⟨hL'.md.1, r_takeSign (d := d + 2) (e := 0) (c := 59) hL' b (by decide) (fun h2 f2 b2 c2 e2 => ?_)⟩
    have e4 : stp (if tS 59 (hdT (stp 1 s).2) = true then 0 else 1) (stp 1 s) = stp 1 s := (stp_sm _ _).2 (by rw [← e0]; exact n1)
    rw [e4] at b2
    exact kk h2 _ (a.w.trans (f2.p c2 e2).w) (by rw [e3]; exact b2) (fun q => absurd (by rw [wk3_flt n1] at q; exact q) n1)
  · have op := oI_pos (o := some (deK (hdT s.2))) (n := 0) (fun x hx => by cases hx; omega)
    rw [if_neg k4, if_pos (op.mpr rfl), show oI (some (deK (hdT s.2))) = nI (deK (hdT s.2)) from rfl]
    by_cases n30 : W.length = 30
    · rw [if_pos (show nI W.length = 30 by rw [n30]; rfl)]
      have e0 : wk0 W.length s = stp 5 s := by unfold wk0 wkE; rw [if_neg k4, if_neg (by omega)]
      have n1 : ¬ (wk0 W.length s).1 = 0 := by rw [e0]; unfold stp; rw [if_pos s0, if_neg (by decide)]; exact (show ¬ (5 : Nat) = 0 by decide)
      have e3 : wk3 P W.length s = stp 5 s := (wk3_flt n1).trans e0
      refine ⟨hL.md.1, rp_wrong (d := d + 3) (kd := 5) hL hR (by decide) (by decide) (fun h' a b => ?_)⟩
      have hL' := a.la hL
      refine ⟨hL'.md.1, r_takeSign (d := d + 2) (e := 0) (c := 59) hL' b (by decide) (fun h2 f2 b2 c2 e2 => ?_)⟩
      have e4 : stp (if tS 59 (hdT (stp 5 s).2) = true then 0 else 1) (stp 5 s) = stp 5 s := (stp_sm _ _).2 (by rw [← e0]; exact n1)
      rw [e4] at b2
      exact kk h2 _ (a.w.trans (f2.p c2 e2).w) (by rw [e3]; exact b2) (fun q => absurd (by rw [wk3_flt n1] at q; exact q) n1)
    · rw [if_neg (show ¬ nI W.length = 30 from fun q => n30 ((nI_inj (b := 30) (by omega) (by decide)).mp q))]
      have n30 : W.length < 30 := by omega
      have e0 : wk0 W.length s = (0, s.2.tail) := by
        unfold wk0 wkE stp
        rw [if_neg k4, if_pos n30, if_pos s0, if_pos rfl]
      obtain ⟨a, b⟩ := hR.go s0 h0
      refine ⟨hL.md.1, ?_⟩
      rintro h8 e8
      have a : FrP h h8 := by rw [e8, i2]; rw [i2] at a; exact a
      have b : RS h8 L (wk0 W.length s) := by rw [e8, e0, i2]; rw [i2] at b; exact b
      clear e8
      have hL8 := a.la hL
      rw [i95, hL8.ln.1, cl_nI (show 95 + 3 * W.length < 2 ^ 31 by omega), show h.1 = h8.1 from a.1.1.symm]
      refine ⟨190, hL8.ln.2, vp_nI (by omega) (by decide), ?_⟩
      rintro h10 e10
      have fa : FrWk h h10 := a.w.trans (by rw [e10]; exact FrWk.w5 (by omega))
      have ra : RS h10 L (wk0 W.length s) := by rw [e10]; exact b.w5 (by omega)
      have da : DR h10 W := hD.of (fun j hj => by rw [e10, si_on, if_neg (by omega)]; exact congrFun a.2.2.1 j)
      have ea : gi h10 455 (95 + 3 * W.length) = nI (deK (hdT s.2)) := by rw [e10, si_on, if_pos rfl]
      have hL10 := fa.la hL
      have p10 := hP.w fa
      clear e10
      have one : ∀ (h14 : pm_H) (r : Int32), FrP h10 h14 → RS h14 L (wk1 P W.length s) → ((wk1 P W.length s).1 = 0 → r = oI (idN (wkN P (deK (hdT s.2))) (hdT (wk0 W.length s).2))) → Wp G (m_X12_work, d + 5, 0, 0, post) (0, 0) 115 [.ref 446, .int (nI W.length), .int (nI (deK (hdT s.2))), .int (nI (95 + 3 * W.length)), .null] [.int r] h14 := by
        intro h14 r f14 r14 hr
        rw [← i95]
        have g5 : gi h14 455 = gi h10 455 := f14.2.2.1
        refine m115 h14 r k4 n30 (fa.trans f14.w) r14 (da.of (fun j _ => by rw [g5])) (by rw [g5]; exact ea) (fun q => ⟨?_, fun k2 => ?_⟩)
        · obtain ⟨ok, p1, -⟩ := stp_0 (show (stp _ (wk0 W.length s)).1 = 0 from q)
          obtain ⟨n1, ⟨y, y1, y2⟩, -⟩ := old_0 ok
          rw [hr q, y1]
          unfold wkQ
          rw [y1]; rfl
        · have := hr q
          unfold wkN at this
          rw [if_neg (by omega)] at this
          exact this
      by_cases k0 : deK (hdT s.2) = 0
      · rw [if_pos (show nI (deK (hdT s.2)) = 0 from (kr k4 0 (by decide)).mpr k0)]
        have eN : wkN P (deK (hdT s.2)) = pIn P := if_pos k0
        have p22 : gi h10 452 2 = nI (pIn P).length := by unfold pIn; rw [List.length_map]; exact p10.2.2.1
        refine r_itemsP (d := d + 3) hL10 p22 ⟨hL10.md.1, ?_⟩
        refine r_takeTold (d := d) (b := 5) (but := none) hL10 ra p10.2.2.2.2.2.2.1 hO.2.2.1 hd.2.2 (by omega) (fun x hx => by cases hx) (fun h14 r f14 r14 hr => one h14 r f14 ?_ ?_)
        · unfold wk1; rw [eN]; exact r14
        · unfold wk1; rw [eN]; exact hr
      · rw [if_neg (show ¬ nI (deK (hdT s.2)) = 0 from fun q => k0 ((kr k4 0 (by decide)).mp q))]
        have eN : wkN P (deK (hdT s.2)) = pH P := if_neg k0
        refine r_heapsP (d := d + 3) hL10 p10.1 ⟨hL10.md.1, ?_⟩
        refine r_takeTold (d := d) (b := 0) (but := none) hL10 ra p10.2.2.2.2.1 hO.1 hd.1 (by omega) (fun x hx => by cases hx) (fun h14 r f14 r14 hr => one h14 r f14 ?_ ?_)
        · unfold wk1; rw [eN]; exact r14
        · unfold wk1; rw [eN]; exact hr
end RWK
