/-! THE READER: a whole QUEUE, read by the class -/
def pl0 : Pl := ([], [], [], 2, [], false, false)
section RDQ
variable {G : pm_G} {d : Nat} {h : pm_H} {tx : List Nat}
theorem s_clear22 {Q : pm_H → Prop} (hL : La h) (h3 : gi h 55 3 = 0) (h4 : gi h 55 4 = 0) (w : ∀ h', FrS drS h h' → (∀ a, a ≠ 22 → a ≠ 23 → a ≠ 25 → a ≠ 27 → a ≠ 36 → gi h' a = gi h a) → h'.2.2 = h.2.2 → PlC h' 22 pl0 → PlF h' pl0 → Q h') : cv G (d + 1) m_X4_clear [.ref 22] h Q := by
  obtain ⟨m1, m2, m3, m4, ⟨n1, n2, n3⟩, ⟨o1, o2, o3⟩, ⟨q1, q2, q3⟩⟩ := hL.pl
  have g7 : gp h 22 7 = 36 := hL.p (by decide +kernel) (by omega)
  refine cv_wp rfl (Nat.le_of_ble_eq_true rfl) rfl (x_X4_clear ⟨m1, ?_⟩)
  rw [m2]
  refine ⟨n1, ?_⟩
  rintro _ rfl
  rw [show gp (si h 23 1 0) 22 1 = 25 from m3]
  refine ⟨o1, ?_⟩
  rintro _ rfl
  rw [show gp (si (si h 23 1 0) 25 1 0) 22 2 = 27 from m4]
  refine ⟨q1, ?_⟩
  rintro _ rfl
  rw [show gp (si (si (si h 23 1 0) 25 1 0) 27 1 0) 22 7 = 36 from g7]
  refine ⟨hL.lwr.2.2.2.2.1, ?_⟩
  rintro _ rfl _ rfl
  have d1 : ∀ a, (22 ≤ a ∧ a ≤ 38) → drS a := fun a ha => Or.inr (Or.inl ha)
  have fr : FrS drS h (si (si (si (si (si h 23 1 0) 25 1 0) 27 1 0) 36 1 0) 22 8 2) := (FrS.wi (d1 _ (by decide)) (by decide)).trans ((FrS.wi (d1 _ (by decide)) (by decide)).trans ((FrS.wi (d1 _ (by decide)) (by decide)).trans ((FrS.wi (d1 _ (by decide)) (by decide)).trans (FrS.wi (d1 _ (by decide)) (by decide)))))
  have e : ∀ a, a ≠ 22 → a ≠ 23 → a ≠ 25 → a ≠ 27 → a ≠ 36 → gi (si (si (si (si (si h 23 1 0) 25 1 0) 27 1 0) 36 1 0) 22 8 2) a = gi h a := fun a e1 e2 e3 e4 e5 => ((pm_u_ne _ _ _ e1).trans ((pm_u_ne _ _ _ e5).trans ((pm_u_ne _ _ _ e4).trans ((pm_u_ne _ _ _ e3).trans (pm_u_ne _ _ _ e2)))))
  refine ⟨rfl, w _ fr e rfl ⟨⟨rfl, fun i hi => absurd hi (Nat.not_lt_zero i)⟩, ⟨rfl, fun i hi => absurd hi (Nat.not_lt_zero i)⟩, ⟨rfl, fun i hi => absurd hi (Nat.not_lt_zero i)⟩, fun i hi => absurd hi (Nat.not_lt_zero i), fun i hi => absurd hi (Nat.not_lt_zero i), rfl, trivial, rfl⟩ ⟨(congrFun (e 55 (by decide) (by decide) (by decide) (by decide) (by decide)) 3).trans h3, (congrFun (e 55 (by decide) (by decide) (by decide) (by decide) (by decide)) 4).trans h4⟩⟩
theorem s_queueLoop {post : pm_PT} {h0 : pm_H} (hL0 : La h0) {R : PS × Pl}
    (fin : ∀ h', FrS drS h0 h' → CS h' tx R.1 → (R.1.1 = 0 → PlC h' 22 R.2 ∧ PlG R.2) → post (some (.int (nI (flv R.1)))) h') :
    ∀ (n : Nat) (s : PS) (P : Pl) (i : Nat) (h : pm_H), qL n s P = R → FrS drS h0 h → CS h tx s → (s.1 = 0 → PlC h 22 P ∧ PlF h P ∧ PlG P ∧ s.2.length ≤ n ∧ i + s.2.length ≤ 1001) → i ≤ 1001 → Wp G (m_X5_readQueue, d + 7, 0, 0, post) (0, 0) 28 [.ref 55, .ref 22, .int (nI i), .null] [] h := by
  have stop : ∀ (s : PS) (P : Pl) (i : Nat) (h : pm_H), (s, P) = R → FrS drS h0 h → CS h tx s → (s.1 = 0 → PlC h 22 P ∧ PlG P ∧ i + s.2.length ≤ 1001 ∧ (hdT s.2).2.1 = 0) → i ≤ 1001 → Wp G (m_X5_readQueue, d + 7, 0, 0, post) (0, 0) 28 [.ref 55, .ref 22, .int (nI i), .null] [] h := by
    intro s P i h eR hF hC hP hi
    have hL := hF.la hL0
    obtain ⟨r1, r2, r3⟩ := hL.rdr
    have f := fin h hF (by rw [← eR]; exact hC) (fun q => by rw [← eR] at q ⊢; exact ⟨(hP q).1, (hP q).2.1⟩)
    rw [← eR] at f
    have c3 := hC.2.2.1
    refine x_X5_readQueue_28 ?_
    by_cases ci : (1000 : Int32) < nI i
    · rw [if_pos ci, c3]; exact ⟨r1, f⟩
    · rw [if_neg ci]
      refine ⟨r1, ?_⟩
      by_cases s0 : s.1 = 0
      · rw [if_pos (hC.f0.mpr s0), r2]
        obtain ⟨r, e1, e2, hf⟩ := hC.2.2.2.1.at
        rw [hf.1, (hP s0).2.2.2, if_pos (show nI 0 = 0 from rfl), c3]
        exact ⟨hL.tap.1, f⟩
      · rw [if_neg (fun q => s0 (hC.f0.mp q)), c3]
        exact f
  intro n
  induction n with
  | zero =>
    intro s P i h eR hF hC hP hi
    refine stop s P i h eR hF hC (fun q => ?_) hi
    have := hC.2.2.2.2.1.at.2.2
    have := (hP q).2.2.2.1
    omega
  | succ n ih =>
    intro s P i h eR hF hC hP hi
    rw [qL] at eR
    by_cases c : s.1 = 0 ∧ (hdT s.2).2.1 ≠ 0
    · rw [if_pos c] at eR
      obtain ⟨s0, h0⟩ := c
      obtain ⟨pc, pf, pg, ln, lni⟩ := hP s0
      have hL := hF.la hL0
      obtain ⟨r1, r2, r3⟩ := hL.rdr
      have l0 := hC.2.2.2.2.1.at.2.2
      obtain ⟨r, e1, e2, hf⟩ := hC.2.2.2.1.at
      have f3 : gp h 1 5 = 1000 + wcl (hdT s.2) := hf.2.2.1
      have so := hC.2.2.2.2.1.at.1.2.2.2.2
      refine x_X5_readQueue_28 ?_
      rw [if_neg (show ¬ (1000 : Int32) < nI i from fun q => by have := (nI_ltI (show 1000 < 2 ^ 31 by decide) (show i < 2 ^ 31 by omega)).mp q; omega)]
      refine ⟨r1, ?_⟩
      rw [if_pos (hC.f0.mpr s0), r2, hf.1, if_neg (show ¬ nI (hdT s.2).2.1 = 0 from fun q => h0 ((nI_inj (b := 0) (show (hdT s.2).2.1 < 2 ^ 31 by omega) (by decide)).mp q))]
      refine ⟨hL.tap.1, wcl (hdT s.2), wcl_lt _, f3, ?_⟩
      have ws : ∀ k, 0 < k → (tW k (hdT s.2) = true ↔ wcl (hdT s.2) = k) := fun k hk => by rw [tW_w hk, decide_eq_true_iff]
      -- behind a line
      have nx : ∀ h', FrS drS h h' → CS h' tx (lineQ s P).1 → ((lineQ s P).1.1 = 0 → PlC h' 22 (lineQ s P).2 ∧ PlF h' (lineQ s P).2) → Wp G (m_X5_readQueue, d + 7, 0, 0, post) (0, 0) 28 [.ref 55, .ref 22, .int (nI i + 1), .null] [] h' := by
        intro h' f' c' p'
        rw [nI_1]
        refine ih (lineQ s P).1 (lineQ s P).2 (i + 1) h' eR (hF.trans f') c' (fun q => ?_) (by omega)
        obtain ⟨a, b⟩ := p' q
        have lt := lineQ_len q
        exact ⟨a, b, lineQ_plg hC.2.2.2.2.1 s0 (by omega) pg q, by omega, by omega⟩
      unfold lineQ at nx
      by_cases w1 : wcl (hdT s.2) = 1
      · rw [if_pos w1]
        rw [if_pos ((ws 1 (by decide)).mpr w1)] at nx
        exact s_readHeap (d := d) hL hC pc pf pg.1 h0 nx
      rw [if_neg w1]
      rw [if_neg (fun q => w1 ((ws 1 (by decide)).mp q))] at nx
      refine ⟨wcl (hdT s.2), wcl_lt _, f3, ?_⟩
      by_cases w2 : wcl (hdT s.2) = 2
      · rw [if_pos w2]
        rw [if_pos ((ws 2 (by decide)).mpr w2)] at nx
        exact s_readShelf (d := d) hL hC pc pf pg.1 h0 nx
      rw [if_neg w2]
      rw [if_neg (fun q => w2 ((ws 2 (by decide)).mp q))] at nx
      refine ⟨wcl (hdT s.2), wcl_lt _, f3, ?_⟩
      by_cases w3 : wcl (hdT s.2) = 3
      · rw [if_pos w3]
        rw [if_pos ((ws 3 (by decide)).mpr w3)] at nx
        exact s_readItem (d := d) hL hC pc pf pg.1 h0 nx
      rw [if_neg w3]
      rw [if_neg (fun q => w3 ((ws 3 (by decide)).mp q))] at nx
      refine ⟨wcl (hdT s.2), wcl_lt _, f3, ?_⟩
      by_cases w4 : wcl (hdT s.2) = 6
      · rw [if_pos w4]
        rw [if_pos ((ws 6 (by decide)).mpr w4)] at nx
        exact s_readShare (d := d) hL hC pc pf pg.1 h0 nx
      rw [if_neg w4]
      rw [if_neg (fun q => w4 ((ws 6 (by decide)).mp q))] at nx
      refine ⟨wcl (hdT s.2), wcl_lt _, f3, ?_⟩
      by_cases w5 : wcl (hdT s.2) = 7
      · rw [if_pos w5]
        rw [if_pos ((ws 7 (by decide)).mpr w5)] at nx
        exact s_readGrows (d := d) hL hC pc pf pg.2 h0 (by omega) nx
      rw [if_neg w5]
      rw [if_neg (fun q => w5 ((ws 7 (by decide)).mp q))] at nx
      exact s_fail (d := d + 5) (k := 1) hL hC (by decide) (fun h' a b => nx h' a.dr b (fun q => by
        have q : (wrg 1 s).1 = 0 := q
        unfold wrg at q
        rw [if_pos s0] at q; cases q))
    · rw [if_neg c] at eR
      refine stop s P i h eR hF hC (fun q => ?_) hi
      refine ⟨(hP q).1, (hP q).2.2.1, (hP q).2.2.2.2, ?_⟩
      by_cases z : (hdT s.2).2.1 = 0
      · exact z
      · exact absurd ⟨q, z⟩ c
theorem s_readQueue {Q : Int32 → pm_H → Prop} (hL : La h) (hO : TxO tx) (hT : TxC h tx)
    (w : ∀ h', FrS drS h h' → CS h' tx (qL 1001 (0, TT tx 0) pl0).1 → ((qL 1001 (0, TT tx 0) pl0).1.1 = 0 → PlC h' 22 (qL 1001 (0, TT tx 0) pl0).2 ∧ PlG (qL 1001 (0, TT tx 0) pl0).2) → Q (nI (flv (qL 1001 (0, TT tx 0) pl0).1)) h') : ci G (d + 7) m_X5_readQueue [.ref 55, .ref 22] h Q := by
  obtain ⟨r1, r2, r3⟩ := hL.rdr
  obtain ⟨t1, t2⟩ := TT_ok hO
  have t3 := hO.1
  generalize hR : qL 1001 (0, TT tx 0) pl0 = R at *
  refine ci_wp rfl (Nat.le_of_ble_eq_true rfl) rfl (x_X5_readQueue ⟨r1, ?_⟩)
  rintro _ rfl _ rfl _ rfl
  have d55 : drS 55 := Or.inr (Or.inr (Or.inl rfl))
  have f3 : FrS drS h (si (si (si h 55 2 0) 55 3 0) 55 4 0) := (FrS.wi d55 (by decide)).trans ((FrS.wi d55 (by decide)).trans (FrS.wi d55 (by decide)))
  have g2 : gi (si (si (si h 55 2 0) 55 3 0) 55 4 0) 55 2 = 0 := rfl
  have g3 : gi (si (si (si h 55 2 0) 55 3 0) 55 4 0) 55 3 = 0 := rfl
  have g4 : gi (si (si (si h 55 2 0) 55 3 0) 55 4 0) 55 4 = 0 := rfl
  generalize si (si (si h 55 2 0) 55 3 0) 55 4 0 = hX at *
  have hLX := f3.la hL
  refine ⟨hL.pl.1, s_clear22 (d := d + 5) hLX g3 g4 (fun h5 f5 e5 k5 p5 q5 => ?_)⟩
  have hL5 := f5.la hLX
  have fs := f3.trans f5
  refine ⟨hL5.rdr.1, ?_⟩
  rw [hL5.rdr.2.1]
  refine ⟨hL5.tap.1, s_begin (d := d + 2) hL5 hO (fs.tx (by unfold drS; omega) hT) (fun h7 f7 c7 => ?_)⟩
  have e55 : gi h7 55 = gi h5 55 := f7.2.1 55 (by decide)
  have e5_2 : gi h5 55 2 = 0 := (congrFun (e5 55 (by decide) (by decide) (by decide) (by decide) (by decide)) 2).trans g2
  have fr7 : FrS drS h5 h7 := f7.fr (Or.inl rfl)
  refine s_queueLoop (d := d) (post := fun v h1 => ∃ r, v = some (.int r) ∧ Q r h1) hL (fun h' a b c => ⟨_, rfl, w h' a b c⟩) 1001 (0, TT tx 0) pl0 0 h7 hR (fs.trans fr7) ⟨hO, f7.tx (fs.tx (by unfold drS; omega) hT), (congrFun e55 2).trans e5_2, c7, t1, Nat.zero_le _⟩ (fun _ => ⟨?_, ⟨(congrFun e55 3).trans q5.1, (congrFun e55 4).trans q5.2⟩, ?_, by show (TT tx 0).length ≤ 1001; omega, by show 0 + (TT tx 0).length ≤ 1001; omega⟩) (by decide)
  · exact p5.of (fun a h1 h2 => f7.2.1 a (by omega)) (fun a h1 h2 => f7.2.2.2.1 a (by omega)) (fun a h1 h2 => congrFun f7.2.2.2.2.1 a)
  · refine ⟨⟨fun l hl => (by cases hl), fun l hl => (by cases hl), fun l hl => (by cases hl), by decide, by decide, by decide, fun x hx => (by cases hx), fun x hx => (by cases hx), by decide, fun q => absurd rfl q, by decide⟩, fun _ => rfl⟩
end RDQ
