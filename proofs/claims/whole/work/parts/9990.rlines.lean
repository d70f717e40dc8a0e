/-! THE REFERENCE: the lines of a QUEUE -/
def FrL (h h' : pm_H) : Prop := FrQ h h' ∧ (∀ j, j < 90 → gi h' 452 j = gi h 452 j) ∧ (∀ j, j < 1100 → gi h' 453 j = gi h 453 j) ∧ (∀ j, j < 25 → gj h' 454 j = gj h 454 j) ∧ gi h' 455 = gi h 455
theorem FrL.rfl' {h : pm_H} : FrL h h := ⟨FrQ.rfl', fun _ _ => rfl, fun _ _ => rfl, fun _ _ => rfl, rfl⟩
theorem FrL.trans {h h1 h2 : pm_H} (a : FrL h h1) (b : FrL h1 h2) : FrL h h2 := ⟨a.1.trans b.1, fun j hj => (b.2.1 j hj).trans (a.2.1 j hj), fun j hj => (b.2.2.1 j hj).trans (a.2.2.1 j hj), fun j hj => (b.2.2.2.1 j hj).trans (a.2.2.2.1 j hj), b.2.2.2.2.trans a.2.2.2.2⟩
theorem FrP.l {h h' : pm_H} (f : FrP h h') : FrL h h' := ⟨f.1, fun j _ => congrFun f.2.1 j, fun j _ => congrFun f.2.2.2.1 j, fun j _ => congrFun f.2.2.2.2.1 j, f.2.2.1⟩
theorem FrE.l {c : Nat} {h h' : pm_H} (f : FrE (1100 + c) h h') : FrL h h' := ⟨f.1, fun j _ => congrFun f.2.1 j, fun j hj => f.2.2.2.2 j (by omega), fun j _ => congrFun f.2.2.2.1 j, f.2.2.1⟩
theorem FrL.la {h h' : pm_H} (f : FrL h h') (hL : La h) : La h' := f.1.la hL
theorem FrL.w2 {h : pm_H} {k : Nat} {v : Int32} (hk : 90 ≤ k) : FrL h (si h 452 k v) := by
  have n : ∀ a, a ≠ 452 → gi (si h 452 k v) a = gi h a := fun a ha => pm_u_ne _ _ _ ha
  refine ⟨⟨rfl, fun a ha => n a (by omega), fun j _ _ _ => congrFun (n 446 (by decide)) j, fun _ _ => rfl, rfl, rfl⟩, fun j hj => ?_, fun j _ => congrFun (n 453 (by decide)) j, fun _ _ => rfl, n 455 (by decide)⟩
  show pm_u (gi h) 452 k v 452 j = _
  rw [pm_u_at]; exact if_neg (by omega)
theorem w2_at {h : pm_H} {k j : Nat} {v : Int32} : gi (si h 452 k v) 452 j = if j = k then v else gi h 452 j := by
  show pm_u (gi h) 452 k v 452 j = _
  rw [pm_u_at]; rfl
theorem RS.w2 {h : pm_H} {L : List Tk} {s : PS} {k : Nat} {v : Int32} (hR : RS h L s) (hk : 90 ≤ k) : RS (si h 452 k v) L s := hR.keep (FrL.w2 hk).1 (congrFun (pm_u_ne (gi h) k v (show 446 ≠ 452 by decide)) 7) (congrFun (pm_u_ne (gi h) k v (show 446 ≠ 452 by decide)) 8)
theorem w2_12 {h : pm_H} {k : Nat} {v : Int32} : gi (si h 452 k v) 446 12 = gi h 446 12 := congrFun (pm_u_ne (gi h) k v (show 446 ≠ 452 by decide)) 12
theorem w2_53 {h : pm_H} {k : Nat} {v : Int32} : gi (si h 452 k v) 453 = gi h 453 := pm_u_ne (gi h) k v (show 453 ≠ 452 by decide)
theorem bit0 : ∀ a b : Bool, (((nI (flg a b) >>> ((0 : Int32) &&& 31)) &&& 1 = 1) ↔ a = true) ∧ (nI (flg a b) ||| ((1 : Int32) <<< ((0 : Int32) &&& 31))) = nI (flg true b) ∧ (((nI (flg a b) >>> ((1 : Int32) &&& 31)) &&& 1 = 1) ↔ b = true) ∧ (nI (flg a b) ||| ((1 : Int32) <<< ((1 : Int32) &&& 31))) = nI (flg a true) := by decide +kernel
section RLN
variable {G : pm_G} {d : Nat} {L : List Tk} {h : pm_H} {s : PS} {P : Pl}
theorem r_isOnce0 {a b : Bool} {Q : Int32 → pm_H → Prop} (hL : La h) (hR : RS h L s) (s0 : s.1 = 0) (h0 : (hdT s.2).2.1 ≠ 0) (e177 : gi h 452 177 = nI (flg a b))
    (ky : a = true → ∀ h', FrP h h' → RS h' L (stp 3 s) → Q 0 h')
    (kn : a = false → ∀ h', FrL h h' → RS h' L (0, s.2.tail) → (∀ j, j ≠ 177 → gi h' 452 j = gi h 452 j) → gi h' 452 177 = nI (flg true b) → gi h' 453 = gi h 453 → gj h' 454 = gj h 454 → gi h' 446 12 = gi h 446 12 → Q 1 h') : ci G (d + 2) m_X12_isOnce [.ref 446, .int 0] h Q := by
  obtain ⟨b1, b2, -, -⟩ := bit0 a b
  obtain ⟨-, -, m3, m4⟩ := hL.nms
  refine ci_wp rfl (Nat.le_of_ble_eq_true rfl) rfl (x_X12_isOnce ⟨hL.md.1, r_read (d := d) (n := 87) hL (by decide) ?_⟩)
  rw [show gi h 452 (90 + 87) = nI (flg a b) from e177]
  by_cases c : a = true
  · rw [if_pos (b1.mpr c)]
    exact ⟨hL.md.1, rp_wrong (d := d) (kd := 3) hL hR (by decide) (by decide) (fun h' x y => ⟨_, rfl, ky c h' x y⟩)⟩
  · have c' : a = false := by simpa using c
    rw [if_neg (fun q => c (b1.mp q)), m3]
    refine ⟨hL.md.1, 180, m4, vp_nI (k := 177) (by decide) (by decide), ?_⟩
    rintro _ rfl
    rw [show (177 : Int32).toNatClampNeg = 177 from rfl, e177, b2]
    rintro _ rfl
    have r2 := RS.w2 (k := 177) (v := nI (flg true b)) hR (by decide)
    obtain ⟨x, y⟩ := r2.go s0 h0
    have fl : FrL h (si h 452 177 (nI (flg true b))) := FrL.w2 (by decide)
    refine ⟨_, rfl, kn c' _ (fl.trans x.l) y (fun j hj => ?_) ?_ ?_ ?_ ?_⟩
    · exact (congrFun x.2.1 j).trans (w2_at.trans (if_neg hj))
    · exact (congrFun x.2.1 177).trans (w2_at.trans (if_pos rfl))
    · exact x.2.2.2.1.trans w2_53
    · exact x.2.2.2.2.1
    · exact x.2.2.2.2.2.trans w2_12
theorem r_isOnce1 {a b : Bool} {Q : Int32 → pm_H → Prop} (hL : La h) (hR : RS h L s) (s0 : s.1 = 0) (h0 : (hdT s.2).2.1 ≠ 0) (e177 : gi h 452 177 = nI (flg a b))
    (ky : b = true → ∀ h', FrP h h' → RS h' L (stp 3 s) → Q 0 h')
    (kn : b = false → ∀ h', FrL h h' → RS h' L (0, s.2.tail) → (∀ j, j ≠ 177 → gi h' 452 j = gi h 452 j) → gi h' 452 177 = nI (flg a true) → gi h' 453 = gi h 453 → gj h' 454 = gj h 454 → gi h' 446 12 = gi h 446 12 → Q 1 h') : ci G (d + 2) m_X12_isOnce [.ref 446, .int 1] h Q := by
  obtain ⟨-, -, b1, b2⟩ := bit0 a b
  obtain ⟨-, -, m3, m4⟩ := hL.nms
  refine ci_wp rfl (Nat.le_of_ble_eq_true rfl) rfl (x_X12_isOnce ⟨hL.md.1, r_read (d := d) (n := 87) hL (by decide) ?_⟩)
  rw [show gi h 452 (90 + 87) = nI (flg a b) from e177]
  by_cases c : b = true
  · rw [if_pos (b1.mpr c)]
    exact ⟨hL.md.1, rp_wrong (d := d) (kd := 3) hL hR (by decide) (by decide) (fun h' x y => ⟨_, rfl, ky c h' x y⟩)⟩
  · have c' : b = false := by simpa using c
    rw [if_neg (fun q => c (b1.mp q)), m3]
    refine ⟨hL.md.1, 180, m4, vp_nI (k := 177) (by decide) (by decide), ?_⟩
    rintro _ rfl
    rw [show (177 : Int32).toNatClampNeg = 177 from rfl, e177, b2]
    rintro _ rfl
    have r2 := RS.w2 (k := 177) (v := nI (flg a true)) hR (by decide)
    obtain ⟨x, y⟩ := r2.go s0 h0
    have fl : FrL h (si h 452 177 (nI (flg a true))) := FrL.w2 (by decide)
    refine ⟨_, rfl, kn c' _ (fl.trans x.l) y (fun j hj => ?_) ?_ ?_ ?_ ?_⟩
    · exact (congrFun x.2.1 j).trans (w2_at.trans (if_neg hj))
    · exact (congrFun x.2.1 177).trans (w2_at.trans (if_pos rfl))
    · exact x.2.2.2.1.trans w2_53
    · exact x.2.2.2.2.1
    · exact x.2.2.2.2.2.trans w2_12
theorem NmR.of {h h' : pm_H} {b : Nat} {ns : List (List Nat)} (hN : NmR h b ns) (e : ∀ j, b ≤ j → j < b + ns.length → gj h' 454 j = gj h 454 j) : NmR h' b ns := fun i hi => (e (b + i) (by omega) (by omega)).trans (hN i hi)
theorem NmR.snoc {h h' : pm_H} {b : Nat} {ns : List (List Nat)} {nm : List Nat} (hN : NmR h b ns) (e : ∀ j, b ≤ j → j < b + ns.length → gj h' 454 j = gj h 454 j) (en : gj h' 454 (b + ns.length) = lN (e37 nm)) : NmR h' b (ns ++ [nm]) := by
  intro i hi
  rw [List.length_append, List.length_singleton] at hi
  rw [getD_snoc]
  by_cases c : i < ns.length
  · rw [if_pos c]; exact hN.of e i c
  · rw [if_neg c, if_pos (show i = ns.length by omega), show i = ns.length by omega]; exact en
/-- what a line leaves -/
abbrev LnR (L : List Tk) (s : PS) (P : Pl) (h : pm_H) (Q : pm_H → Prop) : Prop := ∀ h' pre P', FrL h h' → lineQ s P = (sm1 pre, P') → RS h' L pre → (pre.1 = 0 → PlR h' 90 25 1100 P' ∧ PlX h' P') → Q h'
theorem r_lineHeap {Q : pm_H → Prop} (hL : La h) (hR : RS h L s) (s0 : s.1 = 0) (w1 : tW 1 (hdT s.2) = true) (hP : PlR h 90 25 1100 P) (hX : PlX h P) (hO : PlO P) (hd : PlN P) (k : LnR L s P h Q) :
    (h.1[446]? = some (0, 11)) ∧ ci G (d + 4) m_X12_read [.ref 446, .int 0] h fun r41 h42 =>
      (h42.1[446]? = some (0, 11)) ∧ cv G (d + 4) m_X12_readName [.ref 446, .int 0, .int r41, .int 3] h42 fun h44 =>
      (h44.1[446]? = some (0, 11)) ∧
      ∃ n45 : Nat, h44.1[gp h44 446 10]? = some (1, n45) ∧
      (vp_in 90 n45) ∧
      if (gi h44 446 8) ≤ 0 then (
        ∀ h46 : pm_H, h46 = si h44 (gp h44 446 10) (90 : Int32).toNatClampNeg ((gi h44 (gp h44 446 10) (90 : Int32).toNatClampNeg) + 1) →
        ((none : Option Value) = none ∧ Q h46)
      ) else (
        ∀ h47 : pm_H, h47 = si h44 (gp h44 446 10) (90 : Int32).toNatClampNeg ((gi h44 (gp h44 446 10) (90 : Int32).toNatClampNeg) + 0) →
        ((none : Option Value) = none ∧ Q h47)) := by
  have h0 : (hdT s.2).2.1 ≠ 0 := by rw [tW_sort w1]; decide
  have lH := hO.2.2.2.1
  have lS := hO.2.2.2.2.1
  obtain ⟨ls, li⟩ := pl_lens P
  refine ⟨hL.md.1, r_read (d := d + 3) (n := 0) hL (by decide) ⟨hL.md.1, ?_⟩⟩
  rw [show gi h 452 (90 + 0) = nI (pH P).length from hP.1]
  refine r_readName (d := d) (f := 0) (most := 3) hL hR s0 h0 hP hO hd lH (fun q => by omega) (fun h1 f1 e52 e55 e53 e12 b1 e54 => ?_) (by decide)
  have hL1 := f1.la hL
  obtain ⟨-, -, m3, m4⟩ := hL1.nms
  have fl : FrL h h1 := ⟨f1, fun j _ => congrFun e52 j, fun j _ => congrFun e53 j, fun j hj => by
    rw [e54]
    split
    · exact if_neg (by omega)
    · rfl, e55⟩
  have eQ : lineQ s P = (sm1 (bName P (aFull (pH P).length 3 s)), plH P (hdT (aFull (pH P).length 3 s).2).2.2) := by unfold lineQ; rw [if_pos w1]; rfl
  refine ⟨hL1.md.1, 180, by rw [m3]; exact m4, vp_nI (k := 90) (by decide) (by decide), ?_⟩
  rw [m3, show (90 : Int32).toNatClampNeg = 90 from rfl]
  generalize hB : bName P (aFull (pH P).length 3 s) = B at *
  generalize (hdT (aFull (pH P).length 3 s).2).2.2 = nm at *
  by_cases z : B.1 = 0
  · rw [if_pos (b1.le0.mpr z)]
    rw [if_pos z] at e54
    rintro _ rfl
    have v90 : gi h1 452 90 + 1 = nI ((pH P).length + 1) := by rw [e52, hP.1, nI_1]
    rw [v90]
    obtain ⟨q1, q2, q3, q4, q5, q6, q7, q8, q9, q10⟩ := hP
    have g : ∀ j, j ≠ 90 → gi (si h1 452 90 (nI ((pH P).length + 1))) 452 j = gi h 452 j := fun j hj => w2_at.trans ((if_neg hj).trans (congrFun e52 j))
    have gl : ∀ j, j ≠ 25 + (pH P).length → gj (si h1 452 90 (nI ((pH P).length + 1))) 454 j = gj h 454 j := fun j hj => by
      show gj h1 454 j = _
      rw [e54]; exact if_neg hj
    have gn : gj (si h1 452 90 (nI ((pH P).length + 1))) 454 (25 + (pH P).length) = lN (e37 nm) := by
      show gj h1 454 _ = _
      rw [e54]; exact if_pos rfl
    have nf : (pH P).length < 3 := by
      have y : (bName P (aFull (pH P).length 3 s)).1 = 0 := by rw [hB]; exact z
      obtain ⟨-, y2, -⟩ := stp_0 y
      obtain ⟨y3, -⟩ := stp_0 y2
      by_cases c : 3 ≤ (pH P).length
      · rw [if_pos c] at y3; cases y3
      · omega
    refine ⟨rfl, k _ _ _ (fl.trans (FrL.w2 (by decide))) eQ (b1.w2 (by decide)) (fun _ => ⟨⟨?_, (g 91 (by decide)).trans q2, (g 92 (by decide)).trans q3, (g 93 (by decide)).trans q4, q5.snoc (fun j h1 h2 => gl j (by omega)) gn, q6.of (fun j h1 h2 => gl j (by omega)), q7.of (fun j h1 h2 => gl j (by omega)), fun i hi => (g _ (by omega)).trans (q8 i hi), fun i hi => ?_, ?_⟩, (g 177 (by decide)).trans hX.1, (w2_12.trans e12).trans hX.2⟩)⟩
    · show gi (si h1 452 90 (nI ((pH P).length + 1))) 452 90 = nI (pH P ++ [nm]).length
      rw [w2_at, if_pos rfl, List.length_append, List.length_singleton]
    · obtain ⟨a1, a2, a3, a4⟩ := q9 i hi
      exact ⟨(g _ (by omega)).trans a1, (g _ (by omega)).trans a2, (g _ (by omega)).trans a3, (g _ (by omega)).trans a4⟩
    · show (if pLw P = [] then _ else _)
      unfold LwR at q10
      rw [g (90 + 4) (by decide), w2_53, e53]
      exact q10
  · rw [if_neg (fun q => z (b1.le0.mp q))]
    rintro _ rfl
    exact ⟨rfl, k _ _ _ (fl.trans (FrL.w2 (by decide))) eQ (b1.w2 (by decide)) (fun q => absurd q z)⟩
end RLN
