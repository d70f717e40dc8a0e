/-! THE READER: ITEMS and the LAW's line -/
section LN2
variable {G : pm_G} {d : Nat} {h : pm_H} {tx : List Nat} {s : PS} {P : Pl}
theorem CS.of {h' : pm_H} (hC : CS h tx s) (f : FrS drS h h') (e2 : gi h' 55 2 = gi h 55 2) (e1 : gi h' 1 = gi h 1) (e3 : gp h' 1 = gp h 1) (e4 : gj h' 1 = gj h 1) : CS h' tx s := by
  obtain ⟨c1, c2, c3, c4, c5, c6⟩ := hC
  exact ⟨c1, f.tx (by unfold drS; omega) c2, e2.trans c3, c4.keep e1 e3 e4, c5, c6⟩
theorem s_addItem {V : Int64} {kd n n1 n2 hm : Nat} {Q : pm_H → Prop} (hL : La h) (hn : gi h 27 1 = nI n) (hm2 : n < 20) (hk : kd < 4) (h1 : n1 < 1024) (h2 : n2 < 128) (h0 : n2 ≠ 0) (w : Q (si (sl (sf (si (si h 32 n (nI kd)) 34 n (nI hm)) 35 n (UInt32.ofNat (keyS kd n1 n2))) 28 n V) 27 1 (nI (n + 1)))) : cv G (d + 2) m_X4_addItem [.ref 22, .long V, .int (nI kd), .float (FP.fdiv (FP.i2f (nI n1)) (FP.i2f (nI n2))), .int (nI hm)] h Q := by
  obtain ⟨m1, m2, m3, m4, -, -, ⟨k1, k2, k3⟩⟩ := hL.pl
  have g4 : gp h 22 4 = 31 := hL.p (by decide +kernel) (by omega)
  have g5 : gp h 22 5 = 33 := hL.p (by decide +kernel) (by omega)
  have g6 : gp h 22 6 = 35 := hL.p (by decide +kernel) (by omega)
  have kk : h.1[35]? = some (4, 20) := hL.k (by decide +kernel)
  have ro : Ro h 31 32 20 := hL.ro (by decide +kernel) (by decide +kernel) (by decide +kernel) (by decide)
  have ro2 : Ro h 33 34 20 := hL.ro (by decide +kernel) (by decide +kernel) (by decide +kernel) (by decide)
  refine cv_wp rfl (Nat.le_of_ble_eq_true rfl) rfl (x_X4_addItem ⟨m1, ?_⟩)
  rw [m4, g4, hn]
  refine ⟨k1, ro.1, row_set ro ?_⟩
  rw [wr_in hm2 (by decide)]
  refine ⟨m1, ?_⟩
  rw [show gp (sm h (pm_u (gi h) 32 n (nI kd))) 22 5 = 33 from g5]
  have ro2' : Ro (sm h (pm_u (gi h) 32 n (nI kd))) 33 34 20 := ro2
  refine ⟨ro2.1, row_set ro2' ?_⟩
  rw [wr_in hm2 (by decide), if_neg (nI_pos (by omega))]
  refine ⟨m1, ?_⟩
  rw [show gp (sm (sm h (pm_u (gi h) 32 n (nI kd))) (pm_u (gi (sm h (pm_u (gi h) 32 n (nI kd)))) 34 n (nI hm))) 22 6 = 35 from g6]
  refine ⟨20, kk, ?_⟩
  rw [if_neg (show ¬ Int32.ofNat 20 ≤ nI n from nI_nlen hm2 (by decide))]
  refine s_keyFor (d := d) hk h1 h2 h0 ⟨20, kk, vp_nI hm2 (by decide), ?_⟩
  rintro _ rfl
  rw [cl_nI (show n < 2 ^ 31 by omega)]
  refine ⟨m1, ?_⟩
  have e27 : gi (sf (sm (sm h (pm_u (gi h) 32 n (nI kd))) (pm_u (gi (sm h (pm_u (gi h) 32 n (nI kd)))) 34 n (nI hm))) 35 n (UInt32.ofNat (keyS kd n1 n2))) 27 1 = nI n := by
    show pm_u (pm_u (gi h) 32 n (nI kd)) 34 n (nI hm) 27 1 = _
    rw [pm_u_ne _ _ _ (show 27 ≠ 34 by decide), pm_u_ne _ _ _ (show 27 ≠ 32 by decide)]
    exact hn
  rw [show gp (sf (sm (sm h (pm_u (gi h) 32 n (nI kd))) (pm_u (gi (sm h (pm_u (gi h) 32 n (nI kd)))) 34 n (nI hm))) 35 n (UInt32.ofNat (keyS kd n1 n2))) 22 2 = 27 from m4]
  exact ⟨k1, s_nadd (d := d) (h := sf (sm (sm h (pm_u (gi h) 32 n (nI kd))) (pm_u (gi (sm h (pm_u (gi h) 32 n (nI kd)))) 34 n (nI hm))) 35 n (UInt32.ofNat (keyS kd n1 n2))) k1 k2 k3 e27 hm2 (by decide) ⟨rfl, w⟩⟩
theorem s_readItem {Q : pm_H → Prop} (hL : La h) (hC : CS h tx s) (hP : PlC h 22 P) (hF : PlF h P) (hO : PlO P) (h0 : (hdT s.2).2.1 ≠ 0)
    (w : ∀ h', FrS drS h h' → CS h' tx (lineI s P).1 → ((lineI s P).1.1 = 0 → PlC h' 22 (lineI s P).2 ∧ PlF h' (lineI s P).2) → Q h') : cv G (d + 6) m_X5_readItem [.ref 55, .ref 22] h Q := by
  obtain ⟨l1, l2, l3, l4, -, -, ⟨n1, n2, n3⟩⟩ := hL.pl
  obtain ⟨r1, r2, r3⟩ := hL.rdr
  have lI := hO.2.2.2.2.2.1
  have lH := hO.2.2.2.1
  have li := (pl_lens P).2
  have tail : ∀ A, A = iA s P → ∀ hX, FrD h hX → CS hX tx A → (
      (hX.1[55]? = some (0, 5)) ∧
      cl G (d + 5) m_X5_newName [.ref 55, .ref 22] hX fun r3 h4 =>
      (h4.1[55]? = some (0, 5)) ∧
      ci G (d + 5) m_X5_toldKind [.ref 55] h4 fun r5 h6 =>
      (h6.1[55]? = some (0, 5)) ∧
      ci G (d + 5) m_X5_toldNumber [.ref 55, .int 0, .int 999] h6 fun r7 h8 =>
      (h8.1[55]? = some (0, 5)) ∧
      cv G (d + 5) m_X5_expect [.ref 55, .ref 1004] h8 fun h10 =>
      (h10.1[55]? = some (0, 5)) ∧
      ci G (d + 5) m_X5_toldNumber [.ref 55, .int 1, .int 99] h10 fun r11 h12 =>
      (h12.1[55]? = some (0, 5)) ∧
      cv G (d + 5) m_X5_expect [.ref 55, .ref 1005] h12 fun h14 =>
      (h14.1[22]? = some (0, 4)) ∧
      (h14.1[55]? = some (0, 5)) ∧
      ci G (d + 5) m_X5_oldName [.ref 55, .ref (gp h14 22 0), .int (-1)] h14 fun r15 h16 =>
      (h16.1[55]? = some (0, 5)) ∧
      cv G (d + 5) m_X5_expectEnd [.ref 55] h16 fun h18 =>
      (h18.1[55]? = some (0, 5)) ∧
      if (gi h18 55 2) = 0 then (
        if r11 ≤ 0 then (
          ((none : Option Value) = none ∧ Q h18)
        ) else (
          (vf_n32 (FP.fdiv (FP.i2f r7) (FP.i2f r11))) ∧
          (h18.1[22]? = some (0, 4)) ∧
          cv G (d + 5) m_X4_addItem [.ref 22, .long r3, .int r5, .float (FP.fdiv (FP.i2f r7) (FP.i2f r11)), .int r15] h18 fun h20 =>
          ((none : Option Value) = none ∧ Q h20)
        )
      ) else (
        ((none : Option Value) = none ∧ Q h18)
      )) := by
    intro A eA hX fX cX
    have hLX := fX.la hL
    refine ⟨hLX.rdr.1, s_newName (d := d) hLX cX (fX.pl hP) hO (fun h4 V f4 c4 v4 => ?_)⟩
    have hL4 := f4.la hLX
    have c4 : CS h4 tx (bName P A) := c4
    refine ⟨hL4.rdr.1, s_toldKind (d := d) hL4 c4 (fun h6 f6 c6 => ?_)⟩
    have hL6 := f6.la hL4
    have c6 : CS h6 tx (cKind (bName P A)) := c6
    refine ⟨hL6.rdr.1, s_toldNumber (d := d) (lo := 0) (hi := 999) hL6 c6 (by decide) (by decide) (fun h8 rn f8 c8 v8 => ?_)⟩
    have hL8 := f8.la hL6
    have c8 : CS h8 tx (nNum 0 999 (cKind (bName P A))) := c8
    refine ⟨hL8.rdr.1, s_expect (d := d) (i := 4) hL8 c8 (by decide) (by decide) (fun h10 f10 c10 => ?_)⟩
    have hL10 := f10.la hL8
    have c10 : CS h10 tx (wWrd 4 (nNum 0 999 (cKind (bName P A)))) := c10
    refine ⟨hL10.rdr.1, s_toldNumber (d := d) (lo := 1) (hi := 99) hL10 c10 (by decide) (by decide) (fun h12 rd f12 c12 v12 => ?_)⟩
    have hL12 := f12.la hL10
    have c12 : CS h12 tx (nNum 1 99 (wWrd 4 (nNum 0 999 (cKind (bName P A))))) := c12
    refine ⟨hL12.rdr.1, s_expect (d := d) (i := 5) hL12 c12 (by decide) (by decide) (fun h14 f14 c14 => ?_)⟩
    have hL14 := f14.la hL12
    have c14 : CS h14 tx (wWrd 5 (nNum 1 99 (wWrd 4 (nNum 0 999 (cKind (bName P A)))))) := c14
    have f014 := fX.trans (f4.trans (f6.trans (f8.trans (f10.trans (f12.trans f14)))))
    obtain ⟨m1, m2, m3, m4, ⟨k1, k2, k3⟩, -⟩ := hL14.pl
    have p14 := f014.pl hP
    refine ⟨m1, hL14.rdr.1, ?_⟩
    rw [m2]
    refine s_oldName (d := d) (but := none) hL14 c14 k1 k2 k3 p14.1 hO.1 lH (by decide) (fun x q => by cases q) (fun h16 ro f16 c16 v16 => ?_)
    have hL16 := f16.la hL14
    have c16 : CS h16 tx (oOld (pH P) none (wWrd 5 (nNum 1 99 (wWrd 4 (nNum 0 999 (cKind (bName P A))))))) := c16
    refine ⟨hL16.rdr.1, s_expectEnd (d := d) hL16 c16 (fun h18 f18 c18 => ?_)⟩
    have hL18 := f18.la hL16
    have f018 := f014.trans (f16.trans f18)
    have eI : lineI s P = (sm1 (oOld (pH P) none (wWrd 5 (nNum 1 99 (wWrd 4 (nNum 0 999 (cKind (bName P A))))))), plI P ((hdT A.2).2.2, (kdT (hdT (bName P A).2)).getD 0, nmv (hdT (cKind (bName P A)).2).2.2, nmv (hdT (wWrd 4 (nNum 0 999 (cKind (bName P A)))).2).2.2, (idN (pH P) (hdT (wWrd 5 (nNum 1 99 (wWrd 4 (nNum 0 999 (cKind (bName P A)))))).2)).getD 0)) := by rw [eA]; rfl
    rw [eI] at w
    have c18 : CS h18 tx (sm1 (oOld (pH P) none (wWrd 5 (nNum 1 99 (wWrd 4 (nNum 0 999 (cKind (bName P A)))))))) := c18
    refine ⟨hL18.rdr.1, ?_⟩
    by_cases z : (sm1 (oOld (pH P) none (wWrd 5 (nNum 1 99 (wWrd 4 (nNum 0 999 (cKind (bName P A)))))))).1 = 0
    · rw [if_pos (c18.f0.mpr z)]
      obtain ⟨-, y1, -⟩ := stp_0 z
      obtain ⟨z1, y2, -⟩ := stp_0 y1
      obtain ⟨z2, y3, -⟩ := stp_0 y2
      obtain ⟨z3, y4, -⟩ := stp_0 y3
      obtain ⟨z4, y5, -⟩ := stp_0 y4
      obtain ⟨z5, y6, -⟩ := stp_0 y5
      obtain ⟨z6, y7, -⟩ := stp_0 y6
      obtain ⟨z7, y8, -⟩ := stp_0 y7
      obtain ⟨x1, x2⟩ := newK_0 z7
      obtain ⟨kd, kd1, kd2⟩ := kind_0 z6
      obtain ⟨u1, u2, u3⟩ := num_0 z5
      obtain ⟨t1, t2, t3⟩ := num_0 z3
      obtain ⟨o1, ⟨hm, o2, o3⟩, -⟩ := old_0 z1
      have nf : (pI P).length < 20 := by
        rw [eA] at y8
        obtain ⟨y, -, -⟩ := stp_0 y8
        by_cases c : 20 ≤ (pI P).length
        · rw [if_pos c] at y; cases y
        · omega
      have e1 := v4 x1
      have e2 := v8 u1
      have e3 := v12 t1
      have e4 := v16 o1
      rw [o2] at e4 w
      subst e1 e2 e3 e4
      rw [kd1] at w ⊢
      have p18 := f018.pl hP
      generalize hnm : (hdT A.2).2.2 = nm at *
      generalize hq1 : nmv (hdT (cKind (bName P A)).2).2.2 = q1 at *
      generalize hq2 : nmv (hdT (wWrd 4 (nNum 0 999 (cKind (bName P A)))).2).2.2 = q2 at *
      rw [if_neg (show ¬ nI q2 ≤ 0 from fun q => by have := (nI_leI (b := 0) (show q2 < 2 ^ 31 by omega) (by decide)).mp q; omega)]
      obtain ⟨fe, fo, -⟩ := quo_ok (n1 := q1) (n2 := q2) (by omega) (by omega) (by omega)
      refine ⟨by rw [fe]; exact fo.num (by decide), hL18.pl.1, ?_⟩
      have e27 : gi h18 27 1 = nI (pI P).length := by rw [← li]; exact p18.2.2.1.1
      refine s_addItem (d := d + 3) (kd := kd) (n1 := q1) (n2 := q2) (hm := hm) hL18 e27 nf kd2 (by omega) (by omega) (by omega) ⟨rfl, ?_⟩
      obtain ⟨g1, g2, g3, g4, g5, g6, g7, g8⟩ := p18
      have fr : FrS drS h18 (si (sl (sf (si (si h18 32 (pI P).length (nI kd)) 34 (pI P).length (nI hm)) 35 (pI P).length (UInt32.ofNat (keyS kd q1 q2))) 28 (pI P).length (lN (e32 nm))) 27 1 (nI ((pI P).length + 1))) := (FrS.wi (by unfold drS; omega) (by decide)).trans ((FrS.wi (by unfold drS; omega) (by decide)).trans ((FrS.sf (by unfold drS; omega)).trans ((FrS.sl (by unfold drS; omega)).trans (FrS.wi (by unfold drS; omega) (by decide)))))
      have ei : ∀ a, a ≠ 27 → a ≠ 34 → a ≠ 32 → gi (si (sl (sf (si (si h18 32 (pI P).length (nI kd)) 34 (pI P).length (nI hm)) 35 (pI P).length (UInt32.ofNat (keyS kd q1 q2))) 28 (pI P).length (lN (e32 nm))) 27 1 (nI ((pI P).length + 1))) a = gi h18 a := by
        intro a ha hb hc
        show pm_u (pm_u (pm_u (gi h18) 32 (pI P).length (nI kd)) 34 (pI P).length (nI hm)) 27 1 (nI ((pI P).length + 1)) a = _
        rw [pm_u_ne _ _ _ ha, pm_u_ne _ _ _ hb, pm_u_ne _ _ _ hc]
      have e32' : gi (si (sl (sf (si (si h18 32 (pI P).length (nI kd)) 34 (pI P).length (nI hm)) 35 (pI P).length (UInt32.ofNat (keyS kd q1 q2))) 28 (pI P).length (lN (e32 nm))) 27 1 (nI ((pI P).length + 1))) 32 = pm_ui (gi h18 32) (pI P).length (nI kd) := by
        show pm_u (pm_u (pm_u (gi h18) 32 (pI P).length (nI kd)) 34 (pI P).length (nI hm)) 27 1 (nI ((pI P).length + 1)) 32 = _
        rw [pm_u_ne _ _ _ (show 32 ≠ 27 by decide), pm_u_ne _ _ _ (show 32 ≠ 34 by decide), pm_u_at]
      have e34 : gi (si (sl (sf (si (si h18 32 (pI P).length (nI kd)) 34 (pI P).length (nI hm)) 35 (pI P).length (UInt32.ofNat (keyS kd q1 q2))) 28 (pI P).length (lN (e32 nm))) 27 1 (nI ((pI P).length + 1))) 34 = pm_ui (gi h18 34) (pI P).length (nI hm) := by
        show pm_u (pm_u (pm_u (gi h18) 32 (pI P).length (nI kd)) 34 (pI P).length (nI hm)) 27 1 (nI ((pI P).length + 1)) 34 = _
        rw [pm_u_ne _ _ _ (show 34 ≠ 27 by decide), pm_u_at, pm_u_ne _ _ _ (show 34 ≠ 32 by decide)]
      have e35 : gf (si (sl (sf (si (si h18 32 (pI P).length (nI kd)) 34 (pI P).length (nI hm)) 35 (pI P).length (UInt32.ofNat (keyS kd q1 q2))) 28 (pI P).length (lN (e32 nm))) 27 1 (nI ((pI P).length + 1))) 35 = pm_ui (gf h18 35) (pI P).length (UInt32.ofNat (keyS kd q1 q2)) := pm_u_at (gf h18) 35 (pI P).length (UInt32.ofNat (keyS kd q1 q2))
      have ej : ∀ a, a ≠ 28 → gj (si (sl (sf (si (si h18 32 (pI P).length (nI kd)) 34 (pI P).length (nI hm)) 35 (pI P).length (UInt32.ofNat (keyS kd q1 q2))) 28 (pI P).length (lN (e32 nm))) 27 1 (nI ((pI P).length + 1))) a = gj h18 a := fun a ha => pm_u_ne _ _ _ ha
      have q3' : NmC (si (sl (sf (si (si h18 32 (pI P).length (nI kd)) 34 (pI P).length (nI hm)) 35 (pI P).length (UInt32.ofNat (keyS kd q1 q2))) 28 (pI P).length (lN (e32 nm))) 27 1 (nI ((pI P).length + 1))) 27 (pIn P ++ [nm]) := by
        have b0 : NmC (sf (si (si h18 32 (pI P).length (nI kd)) 34 (pI P).length (nI hm)) 35 (pI P).length (UInt32.ofNat (keyS kd q1 q2))) 27 (pIn P) := by
          refine NmC.of g3 ?_ rfl
          show pm_u (pm_u (gi h18) 32 (pI P).length (nI kd)) 34 (pI P).length (nI hm) 27 = _
          rw [pm_u_ne _ _ _ (show 27 ≠ 34 by decide), pm_u_ne _ _ _ (show 27 ≠ 32 by decide)]
        exact b0.add li
      have gp1 : gp (si (sl (sf (si (si h18 32 (pI P).length (nI kd)) 34 (pI P).length (nI hm)) 35 (pI P).length (UInt32.ofNat (keyS kd q1 q2))) 28 (pI P).length (lN (e32 nm))) 27 1 (nI ((pI P).length + 1))) 1 = gp h18 1 := rfl
      generalize si (sl (sf (si (si h18 32 (pI P).length (nI kd)) 34 (pI P).length (nI hm)) 35 (pI P).length (UInt32.ofNat (keyS kd q1 q2))) 28 (pI P).length (lN (e32 nm))) 27 1 (nI ((pI P).length + 1)) = h20 at *
      have hmap : pIn (plI P (nm, (some kd).getD 0, q1, q2, (some hm).getD 0)) = pIn P ++ [nm] := List.map_append
      refine w h20 (f018.dr.trans fr) (c18.of fr (congrFun (ei 55 (by decide) (by decide) (by decide)) 2) (ei 1 (by decide) (by decide) (by decide)) gp1 (ej 1 (by decide))) (fun _ => ⟨⟨g1.of (ei _ (by decide) (by decide) (by decide)) (ej _ (by decide)), g2.of (ei _ (by decide) (by decide) (by decide)) (ej _ (by decide)), ?_, ?_, ?_, ?_, ?_, ?_⟩, ?_⟩)
      · show NmC h20 27 (pIn (plI P (nm, (some kd).getD 0, q1, q2, (some hm).getD 0)))
        rw [hmap]; exact q3'
      · exact fun i hi => (congrFun (ei 30 (by decide) (by decide) (by decide)) i).trans (g4 i hi)
      · intro i hi
        have hi : i < (pI P ++ [(nm, kd, q1, q2, hm)]).length := hi
        rw [List.length_append, List.length_singleton] at hi
        show gi h20 32 i = nI ((pI P ++ [(nm, kd, q1, q2, hm)]).getD i itO).2.1 ∧ gi h20 34 i = nI ((pI P ++ [(nm, kd, q1, q2, hm)]).getD i itO).2.2.2.2 ∧ gf h20 35 i = UInt32.ofNat (keyS ((pI P ++ [(nm, kd, q1, q2, hm)]).getD i itO).2.1 ((pI P ++ [(nm, kd, q1, q2, hm)]).getD i itO).2.2.1 ((pI P ++ [(nm, kd, q1, q2, hm)]).getD i itO).2.2.2.1)
        rw [e32', e34, e35, getD_snoc]
        unfold pm_ui
        by_cases c : i < (pI P).length
        · simp only [if_pos c, if_neg (show ¬ i = (pI P).length by omega)]; exact g5 i c
        · simp only [if_neg c, if_pos (show i = (pI P).length by omega)]; exact ⟨trivial, trivial, trivial⟩
      · exact (congrFun (ei 36 (by decide) (by decide) (by decide)) 1).trans g6
      · rw [ei (22 + 16) (by decide) (by decide) (by decide)]; exact g7
      · exact (congrFun (ei 22 (by decide) (by decide) (by decide)) 8).trans g8
      · have pf := f018.plf hF
        exact ⟨(congrFun (ei 55 (by decide) (by decide) (by decide)) 3).trans pf.1, (congrFun (ei 55 (by decide) (by decide) (by decide)) 4).trans pf.2⟩
    · rw [if_neg (fun q => z (c18.f0.mp q))]
      exact ⟨rfl, w h18 f018.dr c18 (fun q => absurd q z)⟩
  refine cv_wp rfl (Nat.le_of_ble_eq_true rfl) rfl (x_X5_readItem ⟨l1, ?_⟩)
  rw [l4, hP.2.2.1.1, li]
  refine ⟨n1, ?_⟩
  by_cases c : (pI P).length < 20
  · rw [if_pos (show nI (pI P).length < 20 from (nI_ltI (b := 20) (by omega) (by decide)).mpr c)]
    exact ⟨r1, s_rbegin (d := d) (k := 0) hL hC (by decide) (fun _ _ => h0) (tail _ (by unfold iA aFull; rw [if_neg (by omega)]))⟩
  · rw [if_neg (show ¬ nI (pI P).length < 20 from fun q => c ((nI_ltI (b := 20) (by omega) (by decide)).mp q))]
    exact ⟨r1, s_rbegin (d := d) (k := 5) hL hC (by decide) (fun q => by cases q) (tail _ (by unfold iA aFull; rw [if_pos (by omega)]))⟩
end LN2
