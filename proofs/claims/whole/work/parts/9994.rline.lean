/-! THE REFERENCE: a QUEUE, line by line -/
section RL5
variable {G : pm_G} {d : Nat} {L : List Tk} {h : pm_H} {s : PS} {P : Pl}
theorem r_readLine {Q : pm_H → Prop} (hL : La h) (hR : RS h L s) (s0 : s.1 = 0) (hl : s.2.length ≤ 1001) (hP : PlR h 90 25 1100 P) (hX : PlX h P) (hO : PlO P) (hd : PlN P) (k : LnR L s P h Q) : cv G (d + 36) m_X12_readLine [.ref 446] h Q := by
  have lS := hO.2.2.2.2.1
  have lI := hO.2.2.2.2.2.1
  refine cv_wp rfl (Nat.le_of_ble_eq_true rfl) rfl (x_X12_readLine ⟨hL.md.1, r_isWord (d := d + 34) (w := 0) hL hR (by decide) ?_⟩)
  rw [decide_eq_true s0, Bool.true_and, show rwd 0 = 1 from rfl]
  by_cases w1 : tW 1 (hdT s.2) = true
  · rw [w1, if_neg (show ¬ b2i true = 0 by decide)]
    exact r_lineHeap (d := d + 31) hL hR s0 w1 hP hX hO hd k
  rw [show tW 1 (hdT s.2) = false by simpa using w1, if_pos (show b2i false = 0 from rfl)]
  refine ⟨hL.md.1, r_isWord (d := d + 34) (w := 1) hL hR (by decide) ?_⟩
  rw [decide_eq_true s0, Bool.true_and, show rwd 1 = 2 from rfl]
  by_cases w2 : tW 2 (hdT s.2) = true
  · rw [w2, if_neg (show ¬ b2i true = 0 by decide)]
    exact r_lineShelf (d := d) hL hR s0 w1 w2 hP hX hO hd k
  rw [show tW 2 (hdT s.2) = false by simpa using w2, if_pos (show b2i false = 0 from rfl)]
  refine ⟨hL.md.1, r_isWord (d := d + 34) (w := 2) hL hR (by decide) ?_⟩
  rw [decide_eq_true s0, Bool.true_and, show rwd 2 = 3 from rfl]
  by_cases w3 : tW 3 (hdT s.2) = true
  · rw [w3, if_neg (show ¬ b2i true = 0 by decide)]
    exact ⟨hL.md.1, r_readItem (d := d + 29) hL hR s0 w1 w2 w3 hP hX hO hd (fun h' pre P' a b c e => ⟨rfl, k h' pre P' a b c e⟩)⟩
  rw [show tW 3 (hdT s.2) = false by simpa using w3, if_pos (show b2i false = 0 from rfl)]
  refine ⟨hL.md.1, r_isWord (d := d + 34) (w := 5) hL hR (by decide) ?_⟩
  rw [decide_eq_true s0, Bool.true_and, show rwd 5 = 6 from rfl]
  by_cases w4 : tW 6 (hdT s.2) = true
  · rw [w4, if_neg (show ¬ b2i true = 0 by decide)]
    exact r_lineShare (d := d) hL hR s0 w1 w2 w3 w4 hP hX lS lI k
  rw [show tW 6 (hdT s.2) = false by simpa using w4, if_pos (show b2i false = 0 from rfl)]
  refine ⟨hL.md.1, r_isWord (d := d + 34) (w := 6) hL hR (by decide) ?_⟩
  rw [decide_eq_true s0, Bool.true_and, show rwd 6 = 7 from rfl]
  by_cases w5 : tW 7 (hdT s.2) = true
  · rw [w5, if_neg (show ¬ b2i true = 0 by decide)]
    exact r_lineGrows (d := d) hL hR s0 w1 w2 w3 w4 w5 hl hP hX lS lI k
  rw [show tW 7 (hdT s.2) = false by simpa using w5, if_pos (show b2i false = 0 from rfl)]
  have n1 : ¬ (stp 1 s).1 = 0 := by unfold stp; rw [if_pos s0, if_neg (by decide)]; exact (show ¬ (1 : Nat) = 0 by decide)
  have eW : wrg 1 s = stp 1 s := by unfold wrg stp; rw [if_pos s0, if_pos s0, if_neg (by decide)]
  have eQ : lineQ s P = (sm1 (stp 1 s), P) := by
    unfold lineQ
    rw [if_neg w1, if_neg w2, if_neg w3, if_neg w4, if_neg w5, eW]
    rw [show sm1 (stp 1 s) = stp 1 s from (stp_sm _ _).2 n1]
  exact ⟨hL.md.1, rp_wrong (d := d + 34) (kd := 1) hL hR (by decide) (by decide) (fun h' a b => ⟨rfl, k h' _ _ a.l eQ b (fun q => absurd q n1)⟩)⟩
theorem r_queueLoop {post : pm_PT} {h0 : pm_H} (hL0 : La h0) {R : PS × Pl}
    (ok : ∀ h', FrL h0 h' → RS h' L R.1 → R.1.1 = 0 → PlR h' 90 25 1100 R.2 → PlX h' R.2 → PlG R.2 → PlN R.2 → Wp G (m_X12_queue, d + 37, 0, 0, post) (0, 0) 66 [.ref 446, .int 0] [] h')
    (bad : ∀ h', FrL h0 h' → RS h' L R.1 → R.1.1 ≠ 0 → post (some (.int (nI (flv R.1)))) h') :
    ∀ (n : Nat) (s : PS) (P : Pl) (h : pm_H), qL n s P = R → FrL h0 h → RS h L s → (s.1 = 0 → PlR h 90 25 1100 P ∧ PlX h P ∧ PlG P ∧ PlN P ∧ s.2.length ≤ n ∧ s.2.length ≤ 1001) → Wp G (m_X12_queue, d + 37, 0, 0, post) (0, 0) 20 [.ref 446, .null] [] h := by
  have stop : ∀ (s : PS) (P : Pl) (h : pm_H), (s, P) = R → FrL h0 h → RS h L s → (s.1 = 0 → PlR h 90 25 1100 P ∧ PlX h P ∧ PlG P ∧ PlN P ∧ (hdT s.2).2.1 = 0) → Wp G (m_X12_queue, d + 37, 0, 0, post) (0, 0) 20 [.ref 446, .null] [] h := by
    intro s P h eR hF hR hP
    have hL := hF.la hL0
    obtain ⟨i, i1, i2, i3, ⟨t1, t2, t3, t4, t5⟩, tk, i4⟩ := hR.at
    obtain ⟨p1, p4, p5, p6, q7, q8, q9, q0⟩ := hL.tok
    refine x_X12_queue_20 ⟨hL.md.1, ?_⟩
    by_cases s0 : s.1 = 0
    · obtain ⟨a, b, c, e, f⟩ := hP s0
      rw [if_pos (i4.mpr s0), p4, i2, cl_nI (show i < 2 ^ 31 by omega), t1, f]
      refine ⟨1002, q8, vp_nI (by omega) (by decide), ?_⟩
      rw [if_pos (show nI 0 = 0 from rfl), if_pos (hR.le0.mpr s0)]
      subst eR
      exact ok h hF hR s0 a b c e
    · rw [if_neg (fun q => s0 (i4.mp q)), if_neg (fun q => s0 (hR.le0.mp q)), i3]
      subst eR
      exact bad h hF hR s0
  intro n
  induction n with
  | zero =>
    intro s P h eR hF hR hP
    refine stop s P h eR hF hR (fun q => ?_)
    have := hR.2.2.2.1.at.2.2
    have := (hP q).2.2.2.2.1
    omega
  | succ n ih =>
    intro s P h eR hF hR hP
    rw [qL] at eR
    by_cases c : s.1 = 0 ∧ (hdT s.2).2.1 ≠ 0
    · rw [if_pos c] at eR
      obtain ⟨s0, h0'⟩ := c
      obtain ⟨a1, a2, a3, a4, a5, a6⟩ := hP s0
      have hL := hF.la hL0
      have ts := hR.2.2.2.1
      obtain ⟨i, i1, i2, i3, ⟨t1, t2, t3, t4, t5⟩, tk, i4⟩ := hR.at
      obtain ⟨p1, p4, p5, p6, q7, q8, q9, q0⟩ := hL.tok
      have so := tk.2.2.2.2
      refine x_X12_queue_20 ⟨hL.md.1, ?_⟩
      rw [if_pos (i4.mpr s0), p4, i2, cl_nI (show i < 2 ^ 31 by omega), t1]
      refine ⟨1002, q8, vp_nI (by omega) (by decide), ?_⟩
      rw [if_neg (show ¬ nI (hdT s.2).2.1 = 0 from fun q => h0' ((nI_inj (b := 0) (show (hdT s.2).2.1 < 2 ^ 31 by omega) (by decide)).mp q))]
      refine r_readLine (d := d) hL hR s0 a6 a1 a2 a3.1 a4 (fun h1 pre P' f1 e1 b1 g1 => ?_)
      have hL1 := f1.la hL
      refine ⟨hL1.md.1, r_takeSign (d := d + 34) (e := 0) (c := 59) hL1 b1 (by decide) (fun h2 f2 b2 c2 e2 => ?_)⟩
      have b2 : RS h2 L (sm1 pre) := b2
      have fp := f2.p c2 e2
      rw [e1] at eR
      refine ih (sm1 pre) P' h2 eR (hF.trans (f1.trans fp.l)) b2 (fun q => ?_)
      have z : pre.1 = 0 := (stp_0 q).2.1
      obtain ⟨u1, u2⟩ := g1 z
      have lq : (lineQ s P).1.1 = 0 := by rw [e1]; exact q
      have g := lineQ_plg ts s0 a6 a3 lq
      have nn := lineQ_pln a4 lq s0
      have lt := lineQ_len lq
      rw [e1] at g nn lt
      have lt : (sm1 pre).2.length < s.2.length := lt
      refine ⟨u1.same fp.2.1 fp.2.2.2.1 fp.2.2.2.2.1, ⟨(congrFun fp.2.1 177).trans u2.1, fp.2.2.2.2.2.trans u2.2⟩, g, nn, by omega, by omega⟩
    · rw [if_neg c] at eR
      refine stop s P h eR hF hR (fun q => ?_)
      obtain ⟨a1, a2, a3, a4, a5, a6⟩ := hP q
      refine ⟨a1, a2, a3, a4, ?_⟩
      by_cases z : (hdT s.2).2.1 = 0
      · exact z
      · exact absurd ⟨q, z⟩ c
end RL5
