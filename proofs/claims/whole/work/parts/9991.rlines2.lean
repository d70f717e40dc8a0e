/-! THE REFERENCE: more lines of a QUEUE -/
section RL2
variable {G : pm_G} {d : Nat} {L : List Tk} {h : pm_H} {s : PS} {P : Pl}
theorem r_lineShelf {Q : pm_H → Prop} (hL : La h) (hR : RS h L s) (s0 : s.1 = 0) (n1 : ¬ tW 1 (hdT s.2) = true) (w1 : tW 2 (hdT s.2) = true) (hP : PlR h 90 25 1100 P) (hX : PlX h P) (hO : PlO P) (hd : PlN P) (k : LnR L s P h Q) :
      (h.1[446]? = some (0, 11)) ∧
      ci G (d + 35) m_X12_read [.ref 446, .int 1] h fun r29 h30 =>
      (h30.1[446]? = some (0, 11)) ∧
      cv G (d + 35) m_X12_readName [.ref 446, .int 3, .int r29, .int 2] h30 fun h32 =>
      (h32.1[446]? = some (0, 11)) ∧
      ci G (d + 35) m_X12_takeOne [.ref 446, .int 11, .int 4] h32 fun r33 h34 =>
      (h34.1[446]? = some (0, 11)) ∧
      if (gi h34 446 8) = 0 then (
        ci G (d + 35) m_X12_read [.ref 446, .int 1] h34 fun r35 h36 =>
        ∃ n37 : Nat, h36.1[gp h34 446 10]? = some (1, n37) ∧
        (vp_in (95 + r35) n37) ∧
        ∀ h38 : pm_H, h38 = si h36 (gp h34 446 10) (95 + r35 : Int32).toNatClampNeg r33 →
        (h36.1[446]? = some (0, 11)) ∧
        ∃ n39 : Nat, h36.1[gp h38 446 10]? = some (1, n39) ∧
        (vp_in 91 n39) ∧
        ∀ h40 : pm_H, h40 = si h38 (gp h38 446 10) (91 : Int32).toNatClampNeg ((gi h38 (gp h38 446 10) (91 : Int32).toNatClampNeg) + 1) →
        ((none : Option Value) = none ∧ Q h40)
      ) else (
        ((none : Option Value) = none ∧ Q h34)
      ) := by
  have h0 : (hdT s.2).2.1 ≠ 0 := by rw [tW_sort w1]; decide
  have lH := hO.2.2.2.1
  have lS := hO.2.2.2.2.1
  obtain ⟨ls, li⟩ := pl_lens P
  refine ⟨hL.md.1, r_read (d := d + 34) (n := 1) hL (by decide) ⟨hL.md.1, ?_⟩⟩
  rw [show gi h 452 (90 + 1) = nI (pS P).length from hP.2.1]
  refine r_readName (d := d + 31) (f := 3) (most := 2) hL hR s0 h0 hP hO hd lS (fun q => by omega) (fun h1 f1 e52 e55 e53 e12 b1 e54 => ?_) (by decide)
  have hL1 := f1.la hL
  refine ⟨hL1.md.1, r_takeKind (d := d + 32) hL1 b1 (fun h2 r f2 b2 v2 => ?_)⟩
  have hL2 := f2.la hL1
  obtain ⟨-, -, m3, m4⟩ := hL2.nms
  have eQ : lineQ s P = (sm1 (cKind (bName P (aFull (pS P).length 2 s))), plS P (hdT (aFull (pS P).length 2 s).2).2.2 ((kdT (hdT (bName P (aFull (pS P).length 2 s)).2)).getD 0)) := by unfold lineQ; rw [if_neg n1, if_pos w1]; rfl
  have fl : FrL h h2 := (show FrL h h1 from ⟨f1, fun j _ => congrFun e52 j, fun j _ => congrFun e53 j, fun j hj => by
    rw [e54]
    split
    · exact if_neg (by omega)
    · rfl, e55⟩).trans f2.l
  have e52' : gi h2 452 = gi h 452 := f2.2.1.trans e52
  have e53' : gi h2 453 = gi h 453 := f2.2.2.2.1.trans e53
  have e12' : gi h2 446 12 = gi h 446 12 := f2.2.2.2.2.2.trans e12
  have e54' := f2.2.2.2.2.1.trans e54
  have i4 := b2.at.choose_spec.2.2.2.2.2
  refine ⟨hL2.md.1, ?_⟩
  generalize hA : aFull (pS P).length 2 s = A at *
  generalize hB : bName P A = B at *
  generalize (hdT A.2).2.2 = nm at *
  by_cases z : (cKind B).1 = 0
  · rw [if_pos (i4.mpr z)]
    obtain ⟨z1, z2, -⟩ := stp_0 z
    obtain ⟨kd, kd1, kd2⟩ := kind_0 z1
    rw [v2 z, kd1]
    rw [kd1] at eQ
    rw [if_pos z2] at e54'
    have nf : (pS P).length < 2 := by
      have y : (bName P A).1 = 0 := by rw [hB]; exact z2
      obtain ⟨-, y2, -⟩ := stp_0 y
      rw [← hA] at y2
      obtain ⟨y3, -⟩ := stp_0 y2
      by_cases c : 2 ≤ (pS P).length
      · rw [if_pos c] at y3; cases y3
      · omega
    refine r_read (d := d + 34) (n := 1) hL2 (by decide) ?_
    have r91 : gi h2 452 (90 + 1) = nI (pS P).length := (congrFun e52' 91).trans hP.2.1
    rw [r91, m3, show (95 : Int32) = nI 95 from rfl, nI_add, cl_nI (show 95 + (pS P).length < 2 ^ 31 by omega)]
    refine ⟨180, m4, vp_nI (by omega) (by decide), ?_⟩
    rintro _ rfl
    rw [show gp (si h2 452 (95 + (pS P).length) (oI (some kd))) 446 10 = 452 from m3, show (91 : Int32).toNatClampNeg = 91 from rfl]
    refine ⟨hL2.md.1, 180, m4, vp_nI (k := 91) (by decide) (by decide), ?_⟩
    rintro _ rfl
    have v91 : gi (si h2 452 (95 + (pS P).length) (oI (some kd))) 452 91 + 1 = nI ((pS P).length + 1) := by
      rw [w2_at, if_neg (by omega), show gi h2 452 91 = nI (pS P).length from r91, nI_1]
    rw [v91]
    have f3 : FrL h2 (si h2 452 (95 + (pS P).length) (oI (some kd))) := FrL.w2 (by omega)
    have f4 : FrL (si h2 452 (95 + (pS P).length) (oI (some kd))) (si (si h2 452 (95 + (pS P).length) (oI (some kd))) 452 91 (nI ((pS P).length + 1))) := FrL.w2 (by omega)
    have b3 := RS.w2 (v := nI ((pS P).length + 1)) (k := 91) (RS.w2 (v := oI (some kd)) (k := 95 + (pS P).length) b2 (by omega)) (by omega)
    obtain ⟨q1, q2, q3, q4, q5, q6, q7, q8, q9, q10⟩ := hP
    have g : ∀ j, j ≠ 91 → j ≠ 95 + (pS P).length → gi (si (si h2 452 (95 + (pS P).length) (oI (some kd))) 452 91 (nI ((pS P).length + 1))) 452 j = gi h 452 j := fun j h1 h2 => w2_at.trans ((if_neg h1).trans (w2_at.trans ((if_neg h2).trans (congrFun e52' j))))
    have g91 : gi (si (si h2 452 (95 + (pS P).length) (oI (some kd))) 452 91 (nI ((pS P).length + 1))) 452 91 = nI ((pS P).length + 1) := w2_at.trans (if_pos rfl)
    have gk : gi (si (si h2 452 (95 + (pS P).length) (oI (some kd))) 452 91 (nI ((pS P).length + 1))) 452 (95 + (pS P).length) = nI kd := w2_at.trans ((if_neg (by omega)).trans (w2_at.trans (if_pos rfl)))
    have g53 : gi (si (si h2 452 (95 + (pS P).length) (oI (some kd))) 452 91 (nI ((pS P).length + 1))) 453 = gi h 453 := w2_53.trans (w2_53.trans e53')
    have g12 : gi (si (si h2 452 (95 + (pS P).length) (oI (some kd))) 452 91 (nI ((pS P).length + 1))) 446 12 = gi h 446 12 := w2_12.trans (w2_12.trans e12')
    have gl : ∀ j, j ≠ 25 + 3 + (pS P).length → gj (si (si h2 452 (95 + (pS P).length) (oI (some kd))) 452 91 (nI ((pS P).length + 1))) 454 j = gj h 454 j := fun j hj => by
      show gj h2 454 j = _
      rw [e54']; exact if_neg hj
    have gn : gj (si (si h2 452 (95 + (pS P).length) (oI (some kd))) 452 91 (nI ((pS P).length + 1))) 454 (25 + 3 + (pSn P).length) = lN (e37 nm) := by
      show gj h2 454 _ = _
      rw [e54', ls]; exact if_pos rfl
    generalize si (si h2 452 (95 + (pS P).length) (oI (some kd))) 452 91 (nI ((pS P).length + 1)) = h9 at *
    have hmap : pSn (plS P nm ((some kd).getD 0)) = pSn P ++ [nm] := List.map_append
    refine ⟨rfl, k h9 _ _ (fl.trans (f3.trans f4)) eQ b3 (fun _ => ⟨⟨(g 90 (by omega) (by omega)).trans q1, ?_, (g 92 (by omega) (by omega)).trans q3, (g 93 (by omega) (by omega)).trans q4, q5.of (fun j h1 h2 => gl j (by omega)), ?_, q7.of (fun j h1 h2 => gl j (by omega)), fun i hi => ?_, fun i hi => ?_, ?_⟩, (g 177 (by omega) (by omega)).trans hX.1, g12.trans hX.2⟩)⟩
    · show gi h9 452 91 = nI (pS P ++ [(nm, kd)]).length
      rw [g91, List.length_append, List.length_singleton]
    · show NmR h9 (25 + 3) (pSn (plS P nm ((some kd).getD 0)))
      rw [hmap]
      exact q6.snoc (fun j h1 h2 => gl j (by omega)) gn
    · show gi h9 452 (95 + i) = nI ((pS P ++ [(nm, kd)]).getD i ([], 0)).2
      have hi : i < (pS P ++ [(nm, kd)]).length := hi
      rw [List.length_append, List.length_singleton] at hi
      rw [getD_snoc]
      by_cases c : i < (pS P).length
      · rw [if_pos c]; exact (g _ (by omega) (by omega)).trans (q8 i c)
      · rw [if_neg c, if_pos (show i = (pS P).length by omega), show i = (pS P).length by omega]; exact gk
    · obtain ⟨a1, a2, a3, a4⟩ := q9 i hi
      exact ⟨(g _ (by omega) (by omega)).trans a1, (g _ (by omega) (by omega)).trans a2, (g _ (by omega) (by omega)).trans a3, (g _ (by omega) (by omega)).trans a4⟩
    · show (if pLw P = [] then _ else _)
      unfold LwR at q10
      rw [g (90 + 4) (by omega) (by omega), g53]
      exact q10
  · rw [if_neg (fun q => z (i4.mp q))]
    exact ⟨rfl, k _ _ _ fl eQ b2 (fun q => absurd q z)⟩
theorem r_lineShare {Q : pm_H → Prop} (hL : La h) (hR : RS h L s) (s0 : s.1 = 0) (n1 : ¬ tW 1 (hdT s.2) = true) (n2 : ¬ tW 2 (hdT s.2) = true) (n3 : ¬ tW 3 (hdT s.2) = true) (w1 : tW 6 (hdT s.2) = true) (hP : PlR h 90 25 1100 P) (hX : PlX h P) (hS : (pS P).length ≤ 2) (hI : (pI P).length ≤ 20) (k : LnR L s P h Q) :
      (h.1[446]? = some (0, 11)) ∧
      ci G (d + 35) m_X12_isOnce [.ref 446, .int 0] h fun r21 h22 =>
      if r21 = 0 then (
        ((none : Option Value) = none ∧ Q h22)
      ) else (
        (h22.1[446]? = some (0, 11)) ∧
        ci G (d + 35) m_X12_takeNumber [.ref 446, .int 0, .int 6] h22 fun r23 h24 =>
        ∃ n25 : Nat, h24.1[gp h22 446 10]? = some (1, n25) ∧
        (vp_in 93 n25) ∧
        ∀ h26 : pm_H, h26 = si h24 (gp h22 446 10) (93 : Int32).toNatClampNeg r23 →
        ((none : Option Value) = none ∧ Q h26)
      ) := by
  have h0 : (hdT s.2).2.1 ≠ 0 := by rw [tW_sort w1]; decide
  have eQ : lineQ s P = (sm1 (nNum 0 6 (shA s P)), plW P (nmv (hdT (shA s P).2).2.2)) := by unfold lineQ; rw [if_neg n1, if_neg n2, if_neg n3, if_pos w1]; rfl
  refine ⟨hL.md.1, r_isOnce0 (d := d + 33) hL hR s0 h0 hX.1 (fun c h1 f1 b1 => ?_) (fun c h1 f1 b1 g1 g177 g53 g54 g12 => ?_)⟩
  · rw [if_pos rfl]
    have n3' : ¬ (stp 3 s).1 = 0 := by unfold stp; rw [if_pos s0, if_neg (by decide)]; exact (show ¬ (3 : Nat) = 0 by decide)
    have eA : shA s P = stp 3 s := by unfold shA; rw [if_pos c]
    have eN : nNum 0 6 (shA s P) = stp 3 s := by rw [eA]; exact (stp_sm _ _).2 n3'
    exact ⟨rfl, k h1 _ _ f1.l eQ (by rw [eN]; exact b1) (fun q => absurd q (by rw [eN]; exact n3'))⟩
  · rw [if_neg (show ¬ (1 : Int32) = 0 by decide)]
    have eA : shA s P = (0, s.2.tail) := by
      unfold shA stp
      rw [show (if pFs P = true then 3 else 0) = 0 from if_neg (by rw [c]; decide), if_pos s0, if_pos rfl]
    rw [← eA] at b1
    have hL1 := f1.la hL
    refine ⟨hL1.md.1, r_takeNumber (d := d + 33) (lo := 0) (hi := 6) hL1 b1 (by decide) (by decide) (fun h2 r f2 b2 v2 => ?_)⟩
    have hL2 := f2.la hL1
    obtain ⟨-, -, m3, -⟩ := hL1.nms
    obtain ⟨-, -, -, m4⟩ := hL2.nms
    rw [m3, show (93 : Int32).toNatClampNeg = 93 from rfl]
    refine ⟨180, m4, vp_nI (k := 93) (by decide) (by decide), ?_⟩
    rintro _ rfl
    have f3 : FrL h2 (si h2 452 93 r) := FrL.w2 (by decide)
    refine ⟨rfl, k _ _ _ (f1.trans (f2.l.trans f3)) eQ (b2.w2 (by decide)) (fun z => ?_)⟩
    have v := v2 z
    subst v
    obtain ⟨q1, q2, q3, q4, q5, q6, q7, q8, q9, q10⟩ := hP
    have g : ∀ j, j ≠ 93 → j ≠ 177 → gi (si h2 452 93 (nI (nmv (hdT (shA s P).2).2.2))) 452 j = gi h 452 j := fun j h1 h2 => w2_at.trans ((if_neg h1).trans ((congrFun f2.2.1 j).trans (g1 j h2)))
    have gl : gj (si h2 452 93 (nI (nmv (hdT (shA s P).2).2.2))) 454 = gj h 454 := f2.2.2.2.2.1.trans g54
    have g177' : gi (si h2 452 93 (nI (nmv (hdT (shA s P).2).2.2))) 452 177 = nI (flg true (pFg P)) := w2_at.trans ((if_neg (by decide)).trans ((congrFun f2.2.1 177).trans g177))
    refine ⟨⟨(g 90 (by decide) (by decide)).trans q1, (g 91 (by decide) (by decide)).trans q2, (g 92 (by decide) (by decide)).trans q3, w2_at.trans (if_pos rfl), q5.of (fun j _ _ => congrFun gl j), q6.of (fun j _ _ => congrFun gl j), q7.of (fun j _ _ => congrFun gl j), fun i hi => ?_, fun i hi => ?_, ?_⟩, g177', ?_⟩
    · have hi : i < (pS P).length := hi
      exact (g _ (by omega) (by omega)).trans (q8 i hi)
    · have hi : i < (pI P).length := hi
      obtain ⟨a1, a2, a3, a4⟩ := q9 i hi
      have : (pI P).length ≤ 20 := hI
      exact ⟨(g _ (by omega) (by omega)).trans a1, (g _ (by omega) (by omega)).trans a2, (g _ (by omega) (by omega)).trans a3, (g _ (by omega) (by omega)).trans a4⟩
    · show (if pLw P = [] then _ else _)
      unfold LwR at q10
      rw [g (90 + 4) (by decide) (by decide), w2_53, f2.2.2.2.1, g53]
      exact q10
    · exact (w2_12.trans (f2.2.2.2.2.2.trans g12)).trans hX.2
end RL2
