/-! THE REFERENCE: an ITEM's line -/
section RL4
variable {G : pm_G} {d : Nat} {L : List Tk} {h : pm_H} {s : PS} {P : Pl}
theorem r_readItem {Q : pm_H → Prop} (hL : La h) (hR : RS h L s) (s0 : s.1 = 0) (n1 : ¬ tW 1 (hdT s.2) = true) (n2 : ¬ tW 2 (hdT s.2) = true) (w1 : tW 3 (hdT s.2) = true) (hP : PlR h 90 25 1100 P) (hX : PlX h P) (hO : PlO P) (hd : PlN P) (k : LnR L s P h Q) : cv G (d + 6) m_X12_readItem [.ref 446] h Q := by
  have h0 : (hdT s.2).2.1 ≠ 0 := by rw [tW_sort w1]; decide
  have lH := hO.2.2.2.1
  have lS := hO.2.2.2.2.1
  have lI := hO.2.2.2.2.2.1
  obtain ⟨ls, li⟩ := pl_lens P
  have eQ : lineQ s P = (sm1 (iH s P), plI P (iIt s P)) := by unfold lineQ; rw [if_neg n1, if_neg n2, if_pos w1]; rfl
  refine cv_wp rfl (Nat.le_of_ble_eq_true rfl) rfl (x_X12_readItem ⟨hL.md.1, r_read (d := d + 4) (n := 2) hL (by decide) ⟨hL.md.1, ?_⟩⟩)
  rw [show gi h 452 (90 + 2) = nI (pI P).length from hP.2.2.1]
  refine r_readName (d := d + 1) (f := 5) (most := 20) hL hR s0 h0 hP hO hd lI (fun q => by omega) (fun h1 f1 e52 e55 e53 e12 b1 e54 => ?_) (by decide)
  have hL1 := f1.la hL
  have b1 : RS h1 L (iB s P) := b1
  have fl1 : FrL h h1 := ⟨f1, fun j _ => congrFun e52 j, fun j _ => congrFun e53 j, fun j hj => by
    rw [e54]
    split
    · exact if_neg (by omega)
    · rfl, e55⟩
  refine ⟨hL1.md.1, r_takeKind (d := d + 2) hL1 b1 (fun h2 rk f2 b2 v2 => ?_)⟩
  have hL2 := f2.la hL1
  have b2 : RS h2 L (iC s P) := b2
  refine ⟨hL2.md.1, r_takeNumber (d := d + 3) (lo := 0) (hi := 999) hL2 b2 (by decide) (by decide) (fun h3 rn f3 b3 v3 => ?_)⟩
  have hL3 := f3.la hL2
  have b3 : RS h3 L (iD s P) := b3
  refine ⟨hL3.md.1, r_takeWord (d := d + 2) (w := 3) hL3 b3 (by decide) (fun h4 f4 b4 => ?_)⟩
  have hL4 := f4.la hL3
  have b4 : RS h4 L (iE s P) := b4
  refine ⟨hL4.md.1, r_takeNumber (d := d + 3) (lo := 1) (hi := 99) hL4 b4 (by decide) (by decide) (fun h5 rd f5 b5 v5 => ?_)⟩
  have hL5 := f5.la hL4
  have b5 : RS h5 L (iF s P) := b5
  refine ⟨hL5.md.1, r_takeWord (d := d + 2) (w := 4) hL5 b5 (by decide) (fun h6 f6 b6 => ?_)⟩
  have hL6 := f6.la hL5
  have b6 : RS h6 L (iG s P) := b6
  have f16 := f2.trans (f3.trans (f4.trans (f5.trans f6)))
  have e90 : gi h6 452 (90 + 0) = nI (pH P).length := (congrFun (f16.2.1.trans e52) 90).trans hP.1
  have hN6 : NmR h6 25 (pH P) := by
    refine NmR.of hP.2.2.2.2.1 (fun j h1 h2 => ?_)
    rw [f16.2.2.2.2.1, e54]
    split
    · exact if_neg (by omega)
    · rfl
  refine ⟨hL6.md.1, r_read (d := d + 4) (n := 0) hL6 (by decide) ⟨hL6.md.1, ?_⟩⟩
  rw [e90]
  refine r_takeTold (d := d + 1) (b := 25) (but := none) hL6 b6 hN6 hO.1 hd.1 (by omega) (fun x q => by cases q) (fun h7 rh f7 b7 v7 => ?_)
  have hL7 := f7.la hL6
  have b7 : RS h7 L (iH s P) := b7
  have f17 := f16.trans f7
  obtain ⟨-, -, m3, m4⟩ := hL7.nms
  have i4 := b7.at.choose_spec.2.2.2.2.2
  have fl : FrL h h7 := fl1.trans f17.l
  refine ⟨hL7.md.1, ?_⟩
  by_cases z : (iH s P).1 = 0
  · rw [if_pos (i4.mpr z), m3]
    obtain ⟨z1, y1, -⟩ := stp_0 z
    obtain ⟨z2, y2, -⟩ := stp_0 y1
    have y1 : (iG s P).1 = 0 := y1
    have y2 : (iF s P).1 = 0 := y2
    obtain ⟨z3, y3, -⟩ := stp_0 y2
    have y3 : (iE s P).1 = 0 := y3
    obtain ⟨z4, y4, -⟩ := stp_0 y3
    have y4 : (iD s P).1 = 0 := y4
    obtain ⟨z5, y5, -⟩ := stp_0 y4
    have y5 : (iC s P).1 = 0 := y5
    obtain ⟨z6, y6, -⟩ := stp_0 y5
    have y6 : (iB s P).1 = 0 := y6
    obtain ⟨z7, y7, -⟩ := stp_0 y6
    have y7 : (iA s P).1 = 0 := y7
    obtain ⟨kd, kd1, kd2⟩ := kind_0 z6
    obtain ⟨-, ⟨hm, hm1, hm2⟩, -⟩ := old_0 z1
    have nf : (pI P).length < 20 := by
      obtain ⟨y, -, -⟩ := stp_0 y7
      by_cases c : 20 ≤ (pI P).length
      · rw [if_pos c] at y; cases y
      · omega
    have ek := v2 y5
    have en := v3 y4
    have ed := v5 y2
    have eh := v7 z
    have ek : rk = nI kd := by rw [ek]; exact (congrArg oI kd1)
    have eh : rh = nI hm := by rw [eh]; exact (congrArg oI hm1)
    have eIt : iIt s P = ((hdT (iA s P).2).2.2, kd, nmv (hdT (iC s P).2).2.2, nmv (hdT (iE s P).2).2.2, hm) := by
      unfold iIt
      rw [show kdT (hdT (iB s P).2) = some kd from kd1, show idN (pH P) (hdT (iG s P).2) = some hm from hm1]; rfl
    rw [eIt] at eQ
    have e54' : gj h7 454 = pm_ui (gj h 454) (25 + 5 + (pI P).length) (lN (e37 (hdT (iA s P).2).2.2)) := by
      rw [f17.2.2.2.2.1, e54]
      exact if_pos y6
    have e52' : gi h7 452 = gi h 452 := f17.2.1.trans e52
    have e53' : gi h7 453 = gi h 453 := f17.2.2.2.1.trans e53
    have e12' : gi h7 446 12 = gi h 446 12 := f17.2.2.2.2.2.trans e12
    subst en ed ek eh
    generalize (hdT (iA s P).2).2.2 = nm at *
    generalize nmv (hdT (iC s P).2).2.2 = q1 at *
    generalize nmv (hdT (iE s P).2).2.2 = q2 at *
    have hb : (97 : Int32) + 4 * nI (pI P).length = nI (97 + 4 * (pI P).length) := by
      rw [show (4 : Int32) = nI 4 from rfl, pk_mul, show (97 : Int32) = nI 97 from rfl, nI_add]
    rw [hb, show (1 : Int32) = nI 1 from rfl, show (2 : Int32) = nI 2 from rfl, show (3 : Int32) = nI 3 from rfl, nI_add, nI_add, nI_add, cl_nI (show 97 + 4 * (pI P).length < 2 ^ 31 by omega), cl_nI (show 97 + 4 * (pI P).length + 1 < 2 ^ 31 by omega), cl_nI (show 97 + 4 * (pI P).length + 2 < 2 ^ 31 by omega), cl_nI (show 97 + 4 * (pI P).length + 3 < 2 ^ 31 by omega), show (92 : Int32).toNatClampNeg = 92 from rfl]
    refine ⟨180, m4, vp_nI (by omega) (by decide), ?_⟩
    rintro _ rfl
    rw [show gp (si h7 452 (97 + 4 * (pI P).length) (nI kd)) 446 10 = 452 from m3]
    refine ⟨180, m4, vp_nI (by omega) (by decide), ?_⟩
    rintro _ rfl
    rw [show gp (si (si h7 452 (97 + 4 * (pI P).length) (nI kd)) 452 (97 + 4 * (pI P).length + 1) (nI q1)) 446 10 = 452 from m3]
    refine ⟨180, m4, vp_nI (by omega) (by decide), ?_⟩
    rintro _ rfl
    rw [show gp (si (si (si h7 452 (97 + 4 * (pI P).length) (nI kd)) 452 (97 + 4 * (pI P).length + 1) (nI q1)) 452 (97 + 4 * (pI P).length + 2) (nI q2)) 446 10 = 452 from m3]
    refine ⟨180, m4, vp_nI (by omega) (by decide), ?_⟩
    rintro _ rfl
    rw [show gp (si (si (si (si h7 452 (97 + 4 * (pI P).length) (nI kd)) 452 (97 + 4 * (pI P).length + 1) (nI q1)) 452 (97 + 4 * (pI P).length + 2) (nI q2)) 452 (97 + 4 * (pI P).length + 3) (nI hm)) 446 10 = 452 from m3]
    refine ⟨180, m4, vp_nI (k := 92) (by decide) (by decide), ?_⟩
    rintro _ rfl
    have v92 : gi (si (si (si (si h7 452 (97 + 4 * (pI P).length) (nI kd)) 452 (97 + 4 * (pI P).length + 1) (nI q1)) 452 (97 + 4 * (pI P).length + 2) (nI q2)) 452 (97 + 4 * (pI P).length + 3) (nI hm)) 452 92 + nI 1 = nI ((pI P).length + 1) := by
      rw [w2_at, if_neg (by omega), w2_at, if_neg (by omega), w2_at, if_neg (by omega), w2_at, if_neg (by omega), e52', show gi h 452 92 = nI (pI P).length from hP.2.2.1, nI_add]
    rw [v92]
    have fw := (FrL.w2 (h := h7) (k := 97 + 4 * (pI P).length) (v := nI kd) (by omega)).trans ((FrL.w2 (k := 97 + 4 * (pI P).length + 1) (v := nI q1) (by omega)).trans ((FrL.w2 (k := 97 + 4 * (pI P).length + 2) (v := nI q2) (by omega)).trans ((FrL.w2 (k := 97 + 4 * (pI P).length + 3) (v := nI hm) (by omega)).trans (FrL.w2 (k := 92) (v := nI ((pI P).length + 1)) (by omega)))))
    have bw := RS.w2 (k := 92) (v := nI ((pI P).length + 1)) (RS.w2 (k := 97 + 4 * (pI P).length + 3) (v := nI hm) (RS.w2 (k := 97 + 4 * (pI P).length + 2) (v := nI q2) (RS.w2 (k := 97 + 4 * (pI P).length + 1) (v := nI q1) (RS.w2 (k := 97 + 4 * (pI P).length) (v := nI kd) b7 (by omega)) (by omega)) (by omega)) (by omega)) (by omega)
    have ev : ∀ j, gi (si (si (si (si (si h7 452 (97 + 4 * (pI P).length) (nI kd)) 452 (97 + 4 * (pI P).length + 1) (nI q1)) 452 (97 + 4 * (pI P).length + 2) (nI q2)) 452 (97 + 4 * (pI P).length + 3) (nI hm)) 452 92 (nI ((pI P).length + 1))) 452 j = if j = 92 then nI ((pI P).length + 1) else if j = 97 + 4 * (pI P).length + 3 then nI hm else if j = 97 + 4 * (pI P).length + 2 then nI q2 else if j = 97 + 4 * (pI P).length + 1 then nI q1 else if j = 97 + 4 * (pI P).length then nI kd else gi h 452 j := by
      intro j
      rw [w2_at, w2_at, w2_at, w2_at, w2_at, e52']
    have g53 : gi (si (si (si (si (si h7 452 (97 + 4 * (pI P).length) (nI kd)) 452 (97 + 4 * (pI P).length + 1) (nI q1)) 452 (97 + 4 * (pI P).length + 2) (nI q2)) 452 (97 + 4 * (pI P).length + 3) (nI hm)) 452 92 (nI ((pI P).length + 1))) 453 = gi h 453 := w2_53.trans (w2_53.trans (w2_53.trans (w2_53.trans (w2_53.trans e53'))))
    have g12 : gi (si (si (si (si (si h7 452 (97 + 4 * (pI P).length) (nI kd)) 452 (97 + 4 * (pI P).length + 1) (nI q1)) 452 (97 + 4 * (pI P).length + 2) (nI q2)) 452 (97 + 4 * (pI P).length + 3) (nI hm)) 452 92 (nI ((pI P).length + 1))) 446 12 = gi h 446 12 := w2_12.trans (w2_12.trans (w2_12.trans (w2_12.trans (w2_12.trans e12'))))
    have gn : gj (si (si (si (si (si h7 452 (97 + 4 * (pI P).length) (nI kd)) 452 (97 + 4 * (pI P).length + 1) (nI q1)) 452 (97 + 4 * (pI P).length + 2) (nI q2)) 452 (97 + 4 * (pI P).length + 3) (nI hm)) 452 92 (nI ((pI P).length + 1))) 454 = pm_ui (gj h 454) (25 + 5 + (pI P).length) (lN (e37 nm)) := e54'
    generalize si (si (si (si (si h7 452 (97 + 4 * (pI P).length) (nI kd)) 452 (97 + 4 * (pI P).length + 1) (nI q1)) 452 (97 + 4 * (pI P).length + 2) (nI q2)) 452 (97 + 4 * (pI P).length + 3) (nI hm)) 452 92 (nI ((pI P).length + 1)) = h9 at *
    obtain ⟨u1, u2, u3, u4, u5, u6, u7, u8, u9, u10⟩ := hP
    have g : ∀ j, j ≠ 92 → j < 97 + 4 * (pI P).length ∨ 97 + 4 * (pI P).length + 3 < j → gi h9 452 j = gi h 452 j := fun j h1 h2 => by
      rw [ev, if_neg h1, if_neg (by omega), if_neg (by omega), if_neg (by omega), if_neg (by omega)]
    have gl : ∀ j, j ≠ 25 + 5 + (pI P).length → gj h9 454 j = gj h 454 j := fun j hj => by rw [gn]; exact if_neg hj
    have hmap : pIn (plI P (nm, kd, q1, q2, hm)) = pIn P ++ [nm] := List.map_append
    refine ⟨rfl, k h9 _ _ (fl.trans fw) eQ bw (fun _ => ⟨⟨(g 90 (by decide) (by omega)).trans u1, (g 91 (by decide) (by omega)).trans u2, ?_, (g 93 (by decide) (by omega)).trans u4, u5.of (fun j h1 h2 => gl j (by omega)), u6.of (fun j h1 h2 => gl j (by omega)), ?_, fun i hi => ?_, fun i hi => ?_, ?_⟩, (g 177 (by decide) (by omega)).trans hX.1, g12.trans hX.2⟩)⟩
    · show gi h9 452 92 = nI (pI P ++ [(nm, kd, q1, q2, hm)]).length
      rw [ev, if_pos rfl, List.length_append, List.length_singleton]
    · show NmR h9 (25 + 5) (pIn (plI P (nm, kd, q1, q2, hm)))
      rw [hmap]
      refine u7.snoc (fun j h1 h2 => gl j (by omega)) ?_
      rw [gn, li]; exact if_pos rfl
    · have hi : i < (pS P).length := hi
      exact (g _ (by omega) (by omega)).trans (u8 i hi)
    · have hi : i < (pI P ++ [(nm, kd, q1, q2, hm)]).length := hi
      rw [List.length_append, List.length_singleton] at hi
      show gi h9 452 (97 + 4 * i) = nI ((pI P ++ [(nm, kd, q1, q2, hm)]).getD i itO).2.1 ∧ gi h9 452 (97 + 4 * i + 1) = nI ((pI P ++ [(nm, kd, q1, q2, hm)]).getD i itO).2.2.1 ∧ gi h9 452 (97 + 4 * i + 2) = nI ((pI P ++ [(nm, kd, q1, q2, hm)]).getD i itO).2.2.2.1 ∧ gi h9 452 (97 + 4 * i + 3) = nI ((pI P ++ [(nm, kd, q1, q2, hm)]).getD i itO).2.2.2.2
      rw [getD_snoc]
      by_cases c : i < (pI P).length
      · rw [if_pos c]
        obtain ⟨a1, a2, a3, a4⟩ := u9 i c
        exact ⟨(g _ (by omega) (by omega)).trans a1, (g _ (by omega) (by omega)).trans a2, (g _ (by omega) (by omega)).trans a3, (g _ (by omega) (by omega)).trans a4⟩
      · have ei : i = (pI P).length := by omega
        subst ei
        rw [if_neg c, if_pos rfl]
        refine ⟨?_, ?_, ?_, ?_⟩
        · rw [ev, if_neg (by omega), if_neg (by omega), if_neg (by omega), if_neg (by omega), if_pos rfl]
        · rw [ev, if_neg (by omega), if_neg (by omega), if_neg (by omega), if_pos rfl]
        · rw [ev, if_neg (by omega), if_neg (by omega), if_pos rfl]
        · rw [ev, if_neg (by omega), if_pos rfl]
    · show (if pLw P = [] then _ else _)
      unfold LwR at u10
      rw [g (90 + 4) (by decide) (by omega), g53]
      exact u10
  · rw [if_neg (fun q => z (i4.mp q))]
    exact ⟨rfl, k _ _ _ fl eQ b7 (fun q => absurd q z)⟩
end RL4
