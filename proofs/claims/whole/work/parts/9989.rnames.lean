/-! THE REFERENCE: a QUEUE as it stands in its rows, new names -/
def LwR (h : pm_H) (bq bc : Nat) (P : Pl) : Prop := if pLw P = [] then gi h 452 (bq + 4) = -1 else (gi h 452 (bq + 4) = 0 ∧ CE (gi h 453) bc (pLw P) ∧ gi h 453 (bc + (pLw P).length) = 0)
def PlR (h : pm_H) (bq bn bc : Nat) (P : Pl) : Prop := gi h 452 bq = nI (pH P).length ∧ gi h 452 (bq + 1) = nI (pS P).length ∧ gi h 452 (bq + 2) = nI (pI P).length ∧ gi h 452 (bq + 3) = nI (pSh P) ∧ NmR h bn (pH P) ∧ NmR h (bn + 3) (pSn P) ∧ NmR h (bn + 5) (pIn P) ∧ (∀ i, i < (pS P).length → gi h 452 (bq + 5 + i) = nI ((pS P).getD i ([], 0)).2) ∧ (∀ i, i < (pI P).length → gi h 452 (bq + 7 + 4 * i) = nI ((pI P).getD i itO).2.1 ∧ gi h 452 (bq + 7 + 4 * i + 1) = nI ((pI P).getD i itO).2.2.1 ∧ gi h 452 (bq + 7 + 4 * i + 2) = nI ((pI P).getD i itO).2.2.2.1 ∧ gi h 452 (bq + 7 + 4 * i + 3) = nI ((pI P).getD i itO).2.2.2.2) ∧ LwR h bq bc P
def flg (a b : Bool) : Nat := (if a = true then 1 else 0) + (if b = true then 2 else 0)
def PlX (h : pm_H) (P : Pl) : Prop := gi h 452 177 = nI (flg (pFs P) (pFg P)) ∧ gi h 446 12 = nI (if pFg P = true then (pLw P).length + 1 else 0)
def PlN (P : Pl) : Prop := NdN (pH P) ∧ NdN (pSn P) ∧ NdN (pIn P)
theorem PlR.same {h h' : pm_H} {bq bn bc : Nat} {P : Pl} (hP : PlR h bq bn bc P) (e1 : gi h' 452 = gi h 452) (e2 : gi h' 453 = gi h 453) (e3 : gj h' 454 = gj h 454) : PlR h' bq bn bc P := by
  unfold PlR LwR NmR at *
  rw [e1, e2, e3]; exact hP
theorem NdN.snoc {ns : List (List Nat)} {t : Tk} (h : NdN ns) (hn : (idN ns t).isSome = false) : NdN (ns ++ [t.2.2]) := by
  have no : ∀ x, x < ns.length → ns.getD x [] ≠ t.2.2 := by
    intro x hx q
    cases hi : idN ns t with
    | none =>
      have := fnd_none.mp hi x hx
      rw [decide_eq_true q] at this; cases this
    | some y => rw [hi] at hn; cases hn
  intro x y hx hy e
  rw [List.length_append, List.length_singleton] at hx hy
  rw [getD_snoc, getD_snoc] at e
  by_cases cx : x < ns.length
  · rw [if_pos cx] at e
    by_cases cy : y < ns.length
    · rw [if_pos cy] at e; exact h x y cx cy e
    · rw [if_neg cy, if_pos (by omega)] at e; exact absurd e (no x cx)
  · rw [if_neg cx, if_pos (show x = ns.length by omega)] at e
    by_cases cy : y < ns.length
    · rw [if_pos cy] at e; exact absurd e.symm (no y cy)
    · omega
theorem lineQ_pln {s : PS} {P : Pl} (hP : PlN P) (h : (lineQ s P).1.1 = 0) (s0 : s.1 = 0) : PlN (lineQ s P).2 := by
  obtain ⟨p1, p2, p3⟩ := hP
  have told : ∀ t, toldP P t = false → (idN (pH P) t).isSome = false ∧ (idN (pSn P) t).isSome = false ∧ (idN (pIn P) t).isSome = false := by
    intro t ht
    unfold toldP at ht
    rw [Bool.or_eq_false_iff, Bool.or_eq_false_iff] at ht
    exact ht
  unfold lineQ at h ⊢
  by_cases c1 : tW 1 (hdT s.2) = true
  · rw [if_pos c1] at h ⊢
    obtain ⟨-, y, -⟩ := stp_0 h
    obtain ⟨x1, -⟩ := stp_0 y
    exact ⟨p1.snoc (told _ (newK_0 x1).2).1, p2, p3⟩
  rw [if_neg c1] at h ⊢
  by_cases c2 : tW 2 (hdT s.2) = true
  · rw [if_pos c2] at h ⊢
    obtain ⟨-, y0, -⟩ := stp_0 h
    obtain ⟨yk, y, -⟩ := stp_0 y0
    obtain ⟨x1, -⟩ := stp_0 y
    refine ⟨p1, ?_, p3⟩
    show NdN ((pS P ++ [_]).map _)
    rw [List.map_append]
    exact p2.snoc (told _ (newK_0 x1).2).2.1
  rw [if_neg c2] at h ⊢
  by_cases c3 : tW 3 (hdT s.2) = true
  · rw [if_pos c3] at h ⊢
    obtain ⟨-, y1, -⟩ := stp_0 h
    obtain ⟨z1, y2, -⟩ := stp_0 y1
    obtain ⟨z2, y3, -⟩ := stp_0 y2
    obtain ⟨z3, y4, -⟩ := stp_0 y3
    obtain ⟨z4, y5, -⟩ := stp_0 y4
    obtain ⟨z5, y6, -⟩ := stp_0 y5
    obtain ⟨z6, y, -⟩ := stp_0 y6
    obtain ⟨x1, -⟩ := stp_0 y
    refine ⟨p1, p2, ?_⟩
    show NdN ((pI P ++ [_]).map _)
    rw [List.map_append]
    exact p3.snoc (told _ (newK_0 x1).2).2.2
  rw [if_neg c3] at h ⊢
  by_cases c4 : tW 6 (hdT s.2) = true
  · rw [if_pos c4]; exact ⟨p1, p2, p3⟩
  rw [if_neg c4] at h ⊢
  by_cases c5 : tW 7 (hdT s.2) = true
  · rw [if_pos c5]
    unfold lineG
    generalize alo (prt 5) = al at *
    exact ⟨p1, p2, p3⟩
  rw [if_neg c5]; exact ⟨p1, p2, p3⟩
section RNM
variable {G : pm_G} {d : Nat} {L : List Tk} {h : pm_H} {s : PS} {P : Pl}
theorem r_readName {f many most : Nat} {Q : pm_H → Prop} (hL : La h) (hR : RS h L s) (s0 : s.1 = 0) (h0 : (hdT s.2).2.1 ≠ 0) (hP : PlR h 90 25 1100 P) (hO : PlO P) (hd : PlN P) (hm : many ≤ most) (hf : many ≠ most → 25 + f + many < 50)
    (k : ∀ h', FrQ h h' → gi h' 452 = gi h 452 → gi h' 455 = gi h 455 → gi h' 453 = gi h 453 → gi h' 446 12 = gi h 446 12 → RS h' L (bName P (aFull many most s)) → gj h' 454 = (if (bName P (aFull many most s)).1 = 0 then pm_ui (gj h 454) (25 + f + many) (lN (e37 (hdT (aFull many most s).2).2.2)) else gj h 454) → Q h') (hmo : most < 1000) : cv G (d + 4) m_X12_readName [.ref 446, .int (nI f), .int (nI many), .int (nI most)] h Q := by
  obtain ⟨q1, q2, q3, q4, q5, q6, q7, q8⟩ := id hP
  obtain ⟨o1, o2, o3, o4, o5, o6, -⟩ := id hO
  obtain ⟨d1, d2, d3⟩ := hd
  obtain ⟨lS, lI⟩ := pl_lens P
  have mm := nI_inj (a := many) (b := most) (by omega) (by omega)
  refine cv_wp rfl (Nat.le_of_ble_eq_true rfl) rfl (x_X12_readName ?_)
  by_cases c : many = most
  · rw [if_pos (mm.mpr c)]
    have eA : aFull many most s = stp 5 s := by unfold aFull; rw [if_pos (by omega)]
    have n5 : ¬ (stp 5 s).1 = 0 := by unfold stp; rw [if_pos s0, if_neg (by decide)]; exact (show ¬ (5 : Nat) = 0 by decide)
    have eB : bName P (aFull many most s) = stp 5 s := by
      rw [eA]
      unfold bName
      exact (stp_sm _ _).2 n5
    rw [eB, if_neg n5] at k
    exact ⟨hL.md.1, rp_wrong (d := d + 2) (kd := 5) hL hR (by decide) (by decide) (fun h' a b => ⟨rfl, k h' a.1 a.2.1 a.2.2.1 a.2.2.2.1 a.2.2.2.2.2 b a.2.2.2.2.1⟩)⟩
  · have hf := hf c
    rw [if_neg (fun q => c (mm.mp q))]
    have eA : aFull many most s = (0, s.2.tail) := by
      have e : (if most ≤ many then 5 else 0) = 0 := if_neg (by omega)
      unfold aFull stp
      rw [e, if_pos s0, if_pos rfl]
    rw [eA] at k
    obtain ⟨a1, b1⟩ := hR.go s0 h0
    refine ⟨hL.md.1, ?_⟩
    rintro _ rfl
    have hP1 : PlR (si h 446 7 (gi h 446 7 + 1)) 90 25 1100 P := hP.same a1.2.1 a1.2.2.2.1 a1.2.2.2.2.1
    generalize si h 446 7 (gi h 446 7 + 1) = h1 at *
    have hL1 := a1.la hL
    generalize hA : ((0, s.2.tail) : PS) = A at *
    have A0 : A.1 = 0 := by rw [← hA]
    obtain ⟨q1, q2, q3, q4, q5, q6, q7, q8⟩ := id hP1
    -- at the end: a fault
    have bad : ∀ kd, newK (toldP P (hdT A.2)) (hdT A.2) = kd → 0 < kd → kd ≤ 5 → (h1.1[446]? = some (0, 11)) ∧ cv G (d + 3) m_X12_wrong [.ref 446, .int (nI kd)] h1 (fun h7 => Wp G (m_X12_readName, d + 3 + 1, 0, 0, fun v h1 => v = none ∧ Q h1) (0, 0) 83 [.ref 446, .int (nI f), .int (nI many), .null] [] h7) := by
      intro kd ek k0 k5
      refine ⟨hL1.md.1, rp_wrong (d := d + 2) (kd := kd) hL1 b1 k5 k0 (fun h' a b => ?_)⟩
      have eB : bName P A = stp kd A := by unfold bName; rw [ek]
      have nf : ¬ (stp kd A).1 = 0 := by unfold stp; rw [if_pos A0, if_neg (by omega)]; show ¬ kd = 0; omega
      rw [eB, if_neg nf] at k
      refine x_X12_readName_83 ⟨(a.la hL1).md.1, ?_⟩
      rw [if_neg (fun q => nf (b.at.choose_spec.2.2.2.2.2.mp q))]
      exact ⟨rfl, k h' (a1.1.trans a.1) (a.2.1.trans a1.2.1) (a.2.2.1.trans a1.2.2.1) (a.2.2.2.1.trans a1.2.2.2.1) (a.2.2.2.2.2.trans a1.2.2.2.2.2) b (a.2.2.2.2.1.trans a1.2.2.2.2.1)⟩
    refine r_isName (d := d) hL1 b1 ?_
    rw [decide_eq_true A0, Bool.true_and]
    by_cases nt : nameT (hdT A.2) = true
    · have s1 := nameT_sort nt
      rw [nt, if_neg (show ¬ b2i true = 0 by decide)]
      have isn : ∀ ns : List (List Nat), (0 ≤ oI (idN ns (hdT A.2)) ↔ (idN ns (hdT A.2)).isSome = true) ∨ ¬ ns.length ≤ 20 := by
        intro ns
        by_cases z : ns.length ≤ 20
        · exact Or.inl (oI_pos (n := 0) (fun x hx => by have := idN_lt hx; omega))
        · exact Or.inr z
      have t3 : toldP P (hdT A.2) = true → newK (toldP P (hdT A.2)) (hdT A.2) = 3 := by
        intro q
        unfold newK
        rw [if_neg (by rw [nt]; decide), if_pos q]
      refine ⟨hL1.md.1, r_read (d := d + 2) (n := 0) hL1 (by decide) ⟨hL1.md.1, ?_⟩⟩
      rw [show gi h1 452 (90 + 0) = nI (pH P).length from q1]
      refine r_nameAt (d := d + 2) (b := 25) hL1 b1 s1 q5 o1 d1 (by omega) ?_
      have i1 := (isn (pH P)).resolve_right (fun q => q (by omega))
      by_cases c1 : 0 ≤ oI (idN (pH P) (hdT A.2))
      · rw [if_pos c1]
        exact bad 3 (t3 (by unfold toldP; rw [i1.mp c1]; rfl)) (by decide) (by decide)
      rw [if_neg c1]
      refine ⟨hL1.md.1, r_read (d := d + 2) (n := 1) hL1 (by decide) ⟨hL1.md.1, ?_⟩⟩
      rw [show gi h1 452 (90 + 1) = nI (pS P).length from q2, ← lS]
      refine r_nameAt (d := d + 2) (b := 28) hL1 b1 s1 q6 o2 d2 (by omega) ?_
      have i2 := (isn (pSn P)).resolve_right (fun q => q (by omega))
      by_cases c2 : 0 ≤ oI (idN (pSn P) (hdT A.2))
      · rw [if_pos c2]
        exact bad 3 (t3 (by unfold toldP; rw [i2.mp c2]; simp)) (by decide) (by decide)
      rw [if_neg c2]
      refine ⟨hL1.md.1, r_read (d := d + 2) (n := 2) hL1 (by decide) ⟨hL1.md.1, ?_⟩⟩
      rw [show gi h1 452 (90 + 2) = nI (pI P).length from q3, ← lI]
      refine r_nameAt (d := d + 2) (b := 30) hL1 b1 s1 q7 o3 d3 (by omega) ?_
      have i3 := (isn (pIn P)).resolve_right (fun q => q (by omega))
      by_cases c3 : oI (idN (pIn P) (hdT A.2)) < 0
      · rw [if_pos c3]
        have n3 : ¬ (idN (pIn P) (hdT A.2)).isSome = true := fun q => by
          have := i3.mpr q
          rw [i_le] at this
          rw [i_lt] at c3
          omega
        have tf : toldP P (hdT A.2) = false := by
          unfold toldP
          rw [show (idN (pH P) (hdT A.2)).isSome = false by cases z : (idN (pH P) (hdT A.2)).isSome with | false => rfl | true => exact absurd (i1.mpr z) c1]
          rw [show (idN (pSn P) (hdT A.2)).isSome = false by cases z : (idN (pSn P) (hdT A.2)).isSome with | false => rfl | true => exact absurd (i2.mpr z) c2]
          rw [show (idN (pIn P) (hdT A.2)).isSome = false by cases z : (idN (pIn P) (hdT A.2)).isSome with | false => rfl | true => exact absurd z n3]
          rfl
        have eK : newK (toldP P (hdT A.2)) (hdT A.2) = 0 := by
          unfold newK
          rw [if_neg (by rw [nt]; decide), if_neg (by rw [tf]; decide)]
        have eB : bName P A = (0, A.2.tail) := by unfold bName stp; rw [eK, if_pos A0, if_pos rfl]
        rw [eB, if_pos rfl] at k
        obtain ⟨i, j1, j2, j3, ⟨t1, t2, t3', t4, t5⟩, tk, j4⟩ := b1.at
        obtain ⟨p1, p4, p5, p6, w7, w8, w9, w0⟩ := hL1.tok
        obtain ⟨m1, m2, -⟩ := hL1.nms
        refine x_X12_readName_83 ⟨hL1.md.1, ?_⟩
        rw [if_pos (j4.mpr A0), p6, m1, j2, show (25 : Int32) = nI 25 from rfl, nI_add, nI_add, cl_nI (show i < 2 ^ 31 by omega), cl_nI (show 25 + f + many < 2 ^ 31 by omega), t3' s1]
        refine ⟨1002, w0, vp_nI (by omega) (by decide), 50, m2, vp_nI (by omega) (by decide), ?_⟩
        rintro _ rfl _ rfl
        have fr : FrQ h1 (sl h1 454 (25 + f + many) (lN (e37 (hdT A.2).2.2))) := ⟨rfl, fun _ _ => rfl, fun _ _ _ _ => rfl, fun a ha => pm_u_ne _ _ _ ha, rfl, rfl⟩
        have b2 : RS (sl h1 454 (25 + f + many) (lN (e37 (hdT A.2).2.2))) L A := b1.keep fr rfl rfl
        obtain ⟨a3, b3⟩ := b2.go A0 (by rw [s1]; decide)
        refine ⟨rfl, k _ (a1.1.trans (fr.trans a3.1)) (a3.2.1.trans a1.2.1) (a3.2.2.1.trans a1.2.2.1) (a3.2.2.2.1.trans a1.2.2.2.1) (a3.2.2.2.2.2.trans a1.2.2.2.2.2) b3 ?_⟩
        refine a3.2.2.2.2.1.trans ?_
        rw [← a1.2.2.2.2.1]
        show pm_u (gj h1) 454 (25 + f + many) (lN (e37 (hdT A.2).2.2)) 454 = _
        rw [pm_u_at]
      · rw [if_neg c3]
        have y3 : (idN (pIn P) (hdT A.2)).isSome = true := by
          refine i3.mp ?_
          rw [i_le]
          rw [i_lt] at c3
          omega
        exact bad 3 (t3 (by unfold toldP; rw [y3]; simp)) (by decide) (by decide)
    · have nt : nameT (hdT A.2) = false := by simpa using nt
      rw [nt, if_pos (show b2i false = 0 from rfl)]
      exact bad 1 (by unfold newK; rw [if_pos nt]) (by decide) (by decide)
end RNM
