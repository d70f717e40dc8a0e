/-! WORK: the reference's loop and call -/
section RWL
variable {G : pm_G} {d : Nat} {h : pm_H} {L : List Tk} {s : Sta} {w : Nat} {P : Pl}
theorem r_workLoop {post : pm_PT} {h0 : pm_H} (hL0 : La h0) (hP : PlR h0 0 0 0 P) (hO : PlO P) (hd : PlN P) {R : PS × List Ln}
    (fin : ∀ h' v, FrWk h0 h' → RS h' L R.1 → (R.1.1 = 0 → v = nI R.2.length ∧ DR h' R.2 ∧ R.2.length ≤ 30) → Wp G (m_X12_work, d + 5, 0, 0, post) (0, 0) 204 [.ref 446, .int v, .null, .null, .null] [] h') :
    ∀ (n : Nat) (s : PS) (W : List Ln) (v : Int32) (h : pm_H), wkL P n s W = R → FrWk h0 h → RS h L s → (s.1 = 0 → v = nI W.length ∧ DR h W ∧ W.length ≤ 30 ∧ s.2.length ≤ n ∧ s.2.length ≤ 1001) → Wp G (m_X12_work, d + 5, 0, 0, post) (0, 0) 11 [.ref 446, .int v, .null, .null, .null] [] h := by
  have stop : ∀ (s : PS) (W : List Ln) (v : Int32) (h : pm_H), (s, W) = R → FrWk h0 h → RS h L s → (s.1 = 0 → v = nI W.length ∧ DR h W ∧ W.length ≤ 30 ∧ (hdT s.2).2.1 = 0) → Wp G (m_X12_work, d + 5, 0, 0, post) (0, 0) 11 [.ref 446, .int v, .null, .null, .null] [] h := by
    intro s W v h eR hF hR hP
    have hL := hF.la hL0
    obtain ⟨i, i1, i2, i3, ⟨t1, t2, t3, t4, t5⟩, tk, i4⟩ := hR.at
    obtain ⟨p1, p4, p5, p6, q7, q8, q9, q0⟩ := hL.tok
    have f := fin h v hF (by rw [← eR]; exact hR) (fun q => by rw [← eR] at q ⊢; exact ⟨(hP q).1, (hP q).2.1, (hP q).2.2.1⟩)
    refine x_X12_work_11 ⟨hL.md.1, ?_⟩
    by_cases s0 : s.1 = 0
    · rw [if_pos (i4.mpr s0), p4, i2, cl_nI (show i < 2 ^ 31 by omega), t1, (hP s0).2.2.2]
      refine ⟨1002, q8, vp_nI (by omega) (by decide), ?_⟩
      rw [if_pos (show nI 0 = 0 from rfl)]
      exact f
    · rw [if_neg (fun q => s0 (i4.mp q))]
      exact f
  intro n
  induction n with
  | zero =>
    intro s W v h eR hF hR hP
    refine stop s W v h eR hF hR (fun q => ?_)
    have := hR.2.2.2.1.at.2.2
    have := (hP q).2.2.2.1
    omega
  | succ n ih =>
    intro s W v h eR hF hR hP'
    rw [wkL] at eR
    by_cases c : s.1 = 0 ∧ (hdT s.2).2.1 ≠ 0
    · rw [if_pos c] at eR
      obtain ⟨s0, h0'⟩ := c
      obtain ⟨ev, dr, dl, ln, lni⟩ := hP' s0
      have hL := hF.la hL0
      rw [ev]
      refine r_workLine (d := d) hL hR s0 h0' (hP.w hF) hO hd dr dl (fun h' v' f' r' k' => ?_)
      by_cases z : (wk3 P W.length s).1 = 0
      · rw [if_pos z] at eR
        have lt := wk_len z
        have l3 := (wk_0 z).2.2.1
        exact ih _ _ v' h' eR (hF.trans f') r' (fun _ => ⟨by rw [List.length_append, List.length_singleton]; exact (k' z).1, (k' z).2, by rw [List.length_append, List.length_singleton]; omega, by omega, by omega⟩)
      · rw [if_neg z] at eR
        exact ih _ _ v' h' eR (hF.trans f') r' (fun q => absurd q z)
    · rw [if_neg c] at eR
      refine stop s W v h eR hF hR (fun q => ?_)
      refine ⟨(hP' q).1, (hP' q).2.1, (hP' q).2.2.1, ?_⟩
      by_cases z : (hdT s.2).2.1 = 0
      · exact z
      · exact absurd ⟨q, z⟩ c
theorem r_workCopy {post : pm_PT} {n : Nat} (hL : La h) (hn : n ≤ 30) (k : ∀ h', h'.1 = h.1 → (∀ a, a ≠ 455 → gi h' a = gi h a) → h'.2.2 = h.2.2 → (∀ j, j < 3 * n → gi h' 455 (1 + j) = gi h 455 (95 + j)) → gi h' 455 0 = gi h 455 0 → post (some (.int 0)) h') : Wp G (m_X12_work, d + 1, 0, 0, post) (0, 0) 225 [.ref 446, .int (nI n), .int 0, .null, .null] [] h := by
  have key := up_to (P := fun m => ∀ h1 : pm_H, h1.1 = h.1 → (∀ a, a ≠ 455 → gi h1 a = gi h a) → h1.2.2 = h.2.2 → (∀ j, gi h1 455 j = if 1 ≤ j ∧ j < 1 + m then gi h 455 (94 + j) else gi h 455 j) → Wp G (m_X12_work, d + 1, 0, 0, post) (0, 0) 225 [.ref 446, .int (nI n), .int (nI m), .null, .null] [] h1) (3 * n) (fun m hm ih => ?_) ?_
  · exact key h rfl (fun _ _ => rfl) rfl (fun j => by rw [if_neg (by omega)])
  · intro h1 a1 a2 a3 a4
    have hL1 : La h1 := ⟨a1.trans hL.1, fun a k hx => by show h1.2.2.2.2 a k = _; rw [a3]; exact hL.2 a k hx⟩
    refine x_X12_work_225 ?_
    rw [show (3 : Int32) = nI 3 from rfl, pk_mul, if_neg (show ¬ nI (3 * n) ≤ nI m from nI_nlen hm (by omega)), hL1.ln.1, show (95 : Int32) = nI 95 from rfl, show (1 : Int32) = nI 1 from rfl, nI_add, nI_add, nI_add, cl_nI (show 1 + m < 2 ^ 31 by omega), cl_nI (show 95 + m < 2 ^ 31 by omega)]
    refine ⟨hL1.md.1, 190, hL1.ln.2, vp_nI (by omega) (by decide), vp_nI (by omega) (by decide), ?_⟩
    rintro _ rfl
    refine ih _ a1 (fun a ha => (pm_u_ne _ _ _ ha).trans (a2 a ha)) a3 (fun j => ?_)
    rw [si_on]
    by_cases e : j = 1 + m
    · rw [if_pos e, a4, if_neg (by omega), if_pos (by omega), show 95 + m = 94 + j by omega]
    · rw [if_neg e, a4]
      by_cases e2 : 1 ≤ j ∧ j < 1 + m
      · rw [if_pos e2, if_pos (by omega)]
      · rw [if_neg e2, if_neg (by omega)]
  · intro h1 a1 a2 a3 a4
    refine x_X12_work_225 ?_
    rw [show (3 : Int32) = nI 3 from rfl, pk_mul, if_pos (Int32.le_refl _)]
    exact k h1 a1 a2 a3 (fun j hj => by rw [a4, if_pos (by omega), show 94 + (1 + j) = 95 + j by omega]) (by rw [a4, if_neg (by omega)])
theorem q_work {Q : Int32 → pm_H → Prop} (i : InvR h s) (ok : okSta s w) (k : ∀ h', InvR h' (nWork s).2 → FrB h h' → Q (nWork s).1 h') : ci G (d + 5) m_X12_work [.ref 446] h Q := by
  unfold nWork at k
  refine ci_wp rfl (Nat.le_of_ble_eq_true rfl) rfl (x_X12_work ⟨i.la.md.1, ?_⟩)
  rintro h1 e1
  have i1 : InvR h1 s := by rw [e1]; exact i.th
  have f1 : FrB h h1 := by rw [e1]; exact FrB.si (by decide)
  clear e1
  refine r_cutAll (d := d + 1) ok.tx i1.la i1.tx.1 i1.tx.2 (fun h6 f6 tk6 z2 z3 z7 z8 => ?_)
  have hL6 := f6.la i1.la
  obtain ⟨t1, t2⟩ := TT_ok ok.tx
  have t3 := ok.tx.1
  have wd6 : WdR h6 := fun v hv => (congrFun (f6.2.2.2.1 451 (by decide)) v).trans (i1.wd v hv)
  have rs6 : RS h6 (TT (sT s) 0) (0, TT (sT s) 0) := ⟨tk6, wd6, by omega, t1, Nat.zero_le _, 0, rfl, z7, z8⟩
  have same : ∀ a, a ≠ 446 → a ≠ 448 → a ≠ 449 → gi h6 a = gi h1 a := f6.2.1
  have gjs : ∀ a, a ≠ 450 → gj h6 a = gj h1 a := f6.2.2.2.1
  have pl6 : PlR h6 0 0 0 (sP s) := i1.pl.same (same 452 (by decide) (by decide) (by decide)) (same 453 (by decide) (by decide) (by decide)) (gjs 454 (by decide))
  have fb6 : FrB h1 h6 := ⟨f6.1, fun a ha => same a (by omega) (by omega) (by omega), fun a ha => gjs a (by omega), f6.2.2.2.2.1, f6.2.2.2.2.2⟩
  have eR : wkL (sP s) 1001 (0, TT (sT s) 0) [] = rdW s := rfl
  generalize rdW s = R at *
  refine r_workLoop (d := d) (h0 := h6) hL6 pl6 ok.pl ok.2.2.1 (R := R) (fun h7 v f7 rs7 c7 => ?_) 1001 (0, TT (sT s) 0) [] 0 h6 eR FrWk.rfl' rs6 (fun _ => ⟨rfl, fun j q hq => (by cases hq), Nat.zero_le _, by show (TT (sT s) 0).length ≤ 1001; omega, by show (TT (sT s) 0).length ≤ 1001; omega⟩)
  have hL7 := f7.la hL6
  have fq := f7.1
  refine x_X12_work_204 ⟨hL7.md.1, ?_⟩
  have low : ∀ h9 : pm_H, h9.1 = h7.1 → (∀ a, a ≠ 455 → gi h9 a = gi h7 a) → h9.2.2 = h7.2.2 → (La h9 ∧ WdR h9 ∧ PlR h9 0 0 0 (sP s) ∧ KyR h9 (sP s) ∧ RA (gi h9 460) (gi h9 458) 0 (sA s) ∧ PastR h9 (sU s) ∧ SnR (gi h9 458) (sS s) ∧ gi h9 446 19 = nI (sN s) ∧ MarkR h9 (sM s) ∧ gi h9 446 2 = 0) ∧ FrB h h9 := by
    intro h9 a1 a2 a3
    obtain ⟨j1, j2, ⟨j3, j4⟩, j5, j6, j7, j8, j9, j10, j11, j12⟩ := i1
    have ej : gj h9 = gj h7 := by show h9.2.2.1 = _; rw [a3]
    have ef : gf h9 = gf h7 := by show h9.2.2.2.1 = _; rw [a3]
    have ep : gp h9 = gp h7 := by show h9.2.2.2.2 = _; rw [a3]
    have e8 : ∀ a, 456 ≤ a → gi h9 a = gi h1 a := fun a ha => (a2 a (by omega)).trans ((fq.2.1 a (by omega)).trans (same a (by omega) (by omega) (by omega)))
    have ed : ∀ k, k = 18 ∨ k = 19 → gi h9 446 k = gi h1 446 k := fun k hk => (congrFun (a2 446 (by decide)) k).trans ((fq.2.2.1 k (by omega) (by omega) (by omega)).trans (f6.2.2.1 k (by omega) (by omega) (by omega) (by omega)))
    refine ⟨⟨⟨a1.trans hL7.1, fun a k hx => by rw [ep]; exact hL7.2 a k hx⟩, fun v hv => ?_, ?_, fun t ht => (congrFun (e8 460 (by decide)) t).trans (j6 t ht), ?_, ⟨(ed 18 (by omega)).trans j9.1, ?_⟩, ?_, (ed 19 (by omega)).trans j11, ?_, ?_⟩, ?_⟩
    · rw [ej, fq.2.2.2.1 451 (by decide)]; exact wd6 v hv
    · exact pl6.same ((a2 452 (by decide)).trans f7.2.1) ((a2 453 (by decide)).trans f7.2.2.1) (by rw [ej]; exact f7.2.2.2.1)
    · rw [e8 460 (by decide), e8 458 (by decide)]; exact j8
    · rw [e8 460 (by decide), e8 458 (by decide)]; exact j9.2
    · rw [e8 458 (by decide)]; exact j10
    · intro m hm
      rw [e8 460 (by decide), e8 458 (by decide), e8 459 (by decide)]
      exact j12 m hm
    · rw [a2 446 (by decide), fq.2.2.1 2 (by decide) (by decide) (by decide)]; exact z2
    · refine f1.trans (fb6.trans ⟨a1.trans fq.1, fun a ha => (a2 a (by omega)).trans (fq.2.1 a (by omega)), fun a ha => ?_, ef.trans fq.2.2.2.2.1, ep.trans fq.2.2.2.2.2⟩)
      rw [ej]; exact fq.2.2.2.1 a (by omega)
  by_cases c : R.1.1 = 0
  · obtain ⟨ev, dr, dl⟩ := c7 c
    rw [if_pos (rs7.le0.mpr c), ev, hL7.ln.1]
    refine ⟨190, hL7.ln.2, vp_nI (k := 0) (by decide) (by decide), ?_⟩
    rintro h8 e8
    have e8 : h8 = si h7 455 0 (nI R.2.length) := e8
    have hL8 : La h8 := by rw [e8]; exact hL7
    refine r_workCopy (d := d + 4) hL8 dl (fun h9 a1 a2 a3 a4 a5 => ⟨_, rfl, ?_⟩)
    unfold nWorkR at k
    rw [if_pos c] at k
    obtain ⟨⟨y1, y2, y3, y4, y5, y6, y7, y8, y9, y10⟩, fb⟩ := low h9 (a1.trans (by rw [e8])) (fun a ha => (a2 a ha).trans (by rw [e8]; exact pm_u_ne _ _ _ ha)) (a3.trans (by rw [e8]))
    refine k h9 ⟨y1, y2, ⟨fun j hj => absurd hj (Nat.not_lt_zero j), y10⟩, y3, y4, ⟨?_, fun j q hq => ?_⟩, y5, y6, y7, y8, y9⟩ fb
    · rw [a5, e8, si_on]; exact if_pos rfl
    · have hq : R.2[j]? = some q := hq
      obtain ⟨b1, b2, b3⟩ := dr j q hq
      have li := (List.getElem?_eq_some_iff.mp hq).1
      have e : ∀ x, x < 3 * R.2.length → gi h9 455 (1 + x) = gi h7 455 (95 + x) := fun x hx => by
        rw [a4 x hx, e8, si_on, if_neg (by omega)]
      refine ⟨?_, ?_, fun z => ?_⟩
      · rw [e _ (by omega)]; exact b1
      · rw [show 2 + 3 * j = 1 + (3 * j + 1) by omega, e _ (by omega)]; exact b2
      · rw [show 3 + 3 * j = 1 + (3 * j + 2) by omega, e _ (by omega)]; exact b3 z
  · rw [if_neg (fun q => c (rs7.le0.mp q))]
    obtain ⟨-, -, i3, -⟩ := rs7.at.choose_spec
    rw [i3]
    unfold nWorkR at k
    rw [if_neg c] at k
    obtain ⟨⟨y1, y2, y3, y4, y5, y6, y7, y8, y9, y10⟩, fb⟩ := low h7 rfl (fun _ _ => rfl) rfl
    have g5 : ∀ j, j < 95 → gi h7 455 j = gi h1 455 j := fun j hj => (f7.2.2.2.2 j hj).trans (congrFun (same 455 (by decide) (by decide) (by decide)) j)
    refine ⟨_, rfl, k h7 ⟨y1, y2, ⟨fun j hj => absurd hj (Nat.not_lt_zero j), y10⟩, y3, y4, ⟨(g5 0 (by decide)).trans i1.wk.1, fun j q hq => ?_⟩, y5, y6, y7, y8, y9⟩ fb⟩
    have hj := (List.getElem?_eq_some_iff.mp hq).1
    have l30 := ok.wk.2.1
    have hj : j < (sW s).length := hj
    obtain ⟨a, b, c⟩ := i1.wk.2 j q hq
    exact ⟨(g5 _ (by omega)).trans a, (g5 _ (by omega)).trans b, fun z => (g5 _ (by omega)).trans (c z)⟩
end RWL
