/-! THE REFERENCE: ITEMS and the LAW's line -/
section RL3
variable {G : pm_G} {d : Nat} {L : List Tk} {h : pm_H} {s : PS} {P : Pl}
theorem okO_ne {ops : List Op} (h : okO ops 0) : ops ≠ [] := by
  intro q
  subst q
  have : (0 : Nat) = 1 := h
  omega
theorem r_lineGrows {Q : pm_H → Prop} (hL : La h) (hR : RS h L s) (s0 : s.1 = 0) (n1 : ¬ tW 1 (hdT s.2) = true) (n2 : ¬ tW 2 (hdT s.2) = true) (n3 : ¬ tW 3 (hdT s.2) = true) (n4 : ¬ tW 6 (hdT s.2) = true) (w1 : tW 7 (hdT s.2) = true) (hl : s.2.length ≤ 1001) (hP : PlR h 90 25 1100 P) (hX : PlX h P) (hS : (pS P).length ≤ 2) (hI : (pI P).length ≤ 20) (k : LnR L s P h Q) :
      (h.1[446]? = some (0, 11)) ∧
      ci G (d + 35) m_X12_isOnce [.ref 446, .int 1] h fun r13 h14 =>
      if r13 = 0 then (
        ((none : Option Value) = none ∧ Q h14)
      ) else (
        (h14.1[446]? = some (0, 11)) ∧
        ∃ n15 : Nat, h14.1[gp h14 446 10]? = some (1, n15) ∧
        (vp_in 94 n15) ∧
        ∀ h16 : pm_H, h16 = si h14 (gp h14 446 10) (94 : Int32).toNatClampNeg (gi h14 446 12) →
        cv G (d + 35) m_X12_allOf [.ref 446, .int 0] h16 fun h18 =>
        (h18.1[446]? = some (0, 11)) ∧
        cv G (d + 35) m_X12_emit [.ref 446, .int 0, .int 0] h18 fun h20 =>
        ((none : Option Value) = none ∧ Q h20)
      ) := by
  have h0 : (hdT s.2).2.1 ≠ 0 := by rw [tW_sort w1]; decide
  have eQ : lineQ s P = (sm1 (alo (prt 5) (gwA s P)).1, plG P (alo (prt 5) (gwA s P)).2) := by unfold lineQ; rw [if_neg n1, if_neg n2, if_neg n3, if_neg n4, if_pos w1]; rfl
  have hal := r_allOf0 (G := G) (L := L) (d + 3)
  have hsm := alo_sm
  have hsz := alo_sz (gwA s P)
  have hwo := alo_wo (prt_wo 5) (prt_gd 5) (prt_sm 5)
  generalize alo (prt 5) = al at *
  refine ⟨hL.md.1, r_isOnce1 (d := d + 33) hL hR s0 h0 hX.1 (fun c h1 f1 b1 => ?_) (fun c h1 f1 b1 g1 g177 g53 g54 g12 => ?_)⟩
  · rw [if_pos rfl]
    have n3' : ¬ (stp 3 s).1 = 0 := by unfold stp; rw [if_pos s0, if_neg (by decide)]; exact (show ¬ (3 : Nat) = 0 by decide)
    have eA : gwA s P = stp 3 s := by unfold gwA; rw [if_pos c]
    have eN : (al (gwA s P)).1 = stp 3 s := by rw [eA, (hsm _).2 n3']
    exact ⟨rfl, k h1 _ _ f1.l eQ (by rw [eN]; exact b1) (fun q => absurd q (by rw [eN]; exact n3'))⟩
  · rw [if_neg (show ¬ (1 : Int32) = 0 by decide)]
    have eA : gwA s P = (0, s.2.tail) := by
      unfold gwA stp
      rw [show (if pFg P = true then 3 else 0) = 0 from if_neg (by rw [c]; decide), if_pos s0, if_pos rfl]
    rw [← eA] at b1
    have tl : s.2.tail.length = s.2.length - 1 := List.length_tail
    have hlA : (gwA s P).2.length ≤ 1001 := by rw [eA]; show s.2.tail.length ≤ 1001; omega
    have tsA := hR.2.2.2.1.at.2.1 h0
    have hw := fun q => hwo (gwA s P) 0 [] (by rw [eA]; exact tsA) (by rw [eA]) q (by decide) rfl
    have hL1 := f1.la hL
    obtain ⟨-, -, m3, m4⟩ := hL1.nms
    have c0 : gi h1 446 12 = 0 := by rw [g12, hX.2, if_neg (by rw [c]; decide)]; rfl
    rw [m3, show (94 : Int32).toNatClampNeg = 94 from rfl, c0]
    refine ⟨hL1.md.1, 180, m4, vp_nI (k := 94) (by decide) (by decide), ?_⟩
    rintro _ rfl
    have b2 := RS.w2 (k := 94) (v := 0) b1 (by decide)
    have f2 : FrL h1 (si h1 452 94 0) := FrL.w2 (by decide)
    have hL2 := f2.la hL1
    refine hal _ _ 0 _ hL2 b2 (w2_12.trans c0) (by omega) (fun h3 f3 b3 c3 e3 => ?_)
    have hL3 := f3.1.la hL2
    generalize gwA s P = A at *
    refine ⟨hL3.md.1, r_emit (d := d + 34) (c := 0 + (al A).2.length) (o := 0) (a := 0) hL3 c3 (by omega) ?_⟩
    obtain ⟨y1, y2, y3, y4⟩ := r_joined (c := 0) (h := si h1 452 94 0) (o1 := (al A).2) (k := 0) f3 b3 c3 e3
    refine ⟨rfl, k _ _ _ (f1.trans (f2.trans y1.l)) eQ y2 (fun z => ?_)⟩
    have ok := hw z
    rw [List.append_nil] at ok
    have ne := okO_ne ok
    obtain ⟨q1, q2, q3, q4, q5, q6, q7, q8, q9, q10⟩ := hP
    have e52 := y1.2.1
    have e54 := y1.2.2.2.1
    rw [List.length_append, List.length_singleton] at y3
    generalize si (si h3 453 (1100 + (0 + (al A).2.length)) (nI (0 + 16 * 0))) 446 12 (nI (0 + (al A).2.length + 1)) = h9 at *
    have g : ∀ j, j ≠ 94 → j ≠ 177 → gi h9 452 j = gi h 452 j := fun j h1 h2 => (congrFun e52 j).trans (w2_at.trans ((if_neg h1).trans (g1 j h2)))
    have gl : gj h9 454 = gj h 454 := e54.trans g54
    refine ⟨⟨(g 90 (by decide) (by decide)).trans q1, (g 91 (by decide) (by decide)).trans q2, (g 92 (by decide) (by decide)).trans q3, (g 93 (by decide) (by decide)).trans q4, q5.of (fun j _ _ => congrFun gl j), q6.of (fun j _ _ => congrFun gl j), q7.of (fun j _ _ => congrFun gl j), fun i hi => ?_, fun i hi => ?_, ?_⟩, ?_, ?_⟩
    · have hi : i < (pS P).length := hi
      exact (g _ (by omega) (by omega)).trans (q8 i hi)
    · have hi : i < (pI P).length := hi
      obtain ⟨a1, a2, a3, a4⟩ := q9 i hi
      exact ⟨(g _ (by omega) (by omega)).trans a1, (g _ (by omega) (by omega)).trans a2, (g _ (by omega) (by omega)).trans a3, (g _ (by omega) (by omega)).trans a4⟩
    · show (if (al A).2 = [] then _ else (gi h9 452 (90 + 4) = 0 ∧ CE (gi h9 453) 1100 (al A).2 ∧ gi h9 453 (1100 + (al A).2.length) = 0))
      rw [if_neg ne]
      have split : ∀ (a b : List Op) (z : Nat → Int32) (i : Nat), CE z i (a ++ b) → CE z i a ∧ CE z (i + a.length) b := by
        intro a
        induction a with
        | nil => intro b z i hh; exact ⟨trivial, hh⟩
        | cons x r ih =>
          intro b z i hh
          obtain ⟨u1, u2⟩ := hh
          obtain ⟨v1, v2⟩ := ih b z (i + 1) u2
          refine ⟨⟨u1, v1⟩, ?_⟩
          rw [List.length_cons, show i + (r.length + 1) = i + 1 + r.length by omega]
          exact v2
      obtain ⟨u1, u2⟩ := split _ _ _ _ y4
      refine ⟨(congrFun e52 94).trans (w2_at.trans (if_pos rfl)), u1, ?_⟩
      exact u2.1
    · exact (congrFun e52 177).trans (w2_at.trans ((if_neg (by decide)).trans g177))
    · show gi h9 446 12 = nI ((al A).2.length + 1)
      rw [y3, Nat.zero_add]
end RL3
