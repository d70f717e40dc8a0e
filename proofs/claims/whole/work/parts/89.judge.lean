/-! JUDGED, DAYS -/
abbrev Ln : Type := Nat × Nat × Nat
def judL (lt : Nat → Nat → Bool) (tvf : Int32 → Nat → Int32 → Int32) (kd skd : Nat → Int32) : List Ln → Nat → Int32 → AF → Int32 × AF
  | [], _, w, A => (w, A)
  | q :: r, i, w, A => judL lt tvf kd skd r (i + 1) (if (doA lt tvf kd skd A q.1 q.2.1 q.2.2).1 = false ∧ w = -1 then nI i else w) (doA lt tvf kd skd A q.1 q.2.1 q.2.2).2
def lnsOK (N : Nat) (l : List Ln) : Prop := ∀ q ∈ l, lnOK N q.1 q.2.1 q.2.2 ∧ (q.1 = 2 → q.2.1 ≠ q.2.2)
/-- the WORK, in the class's rows, in the reference's -/
def WkC (M : Nat → Nat → Int32) (l : List Ln) : Prop := M 41 3 = nI l.length ∧ ∀ i q, l[i]? = some q → M 43 i = nI q.1 ∧ M 45 i = nI q.2.1 ∧ (q.1 ≠ 1 → M 47 i = nI q.2.2)
def WkR (L : Nat → Int32) (l : List Ln) : Prop := L 0 = nI l.length ∧ ∀ i q, l[i]? = some q → L (1 + 3 * i) = nI q.1 ∧ L (2 + 3 * i) = nI q.2.1 ∧ (q.1 ≠ 1 → L (3 + 3 * i) = nI q.2.2)
theorem okN_jud {lt : Nat → Nat → Bool} {tvf : Int32 → Nat → Int32 → Int32} {kd skd : Nat → Int32} {N : Nat} (hN : N ≤ 20) (hpos : ∀ al r g, 0 < tvf al r g) : ∀ (l : List Ln) (i : Nat) (x : Int32) (w : Nat) (A : AF), lnsOK N l → w + l.length ≤ 1000 → okN N A w → okN N (judL lt tvf kd skd l i x A).2 (w + l.length)
  | [], _, _, _, _, _, _, h => h
  | q :: r, i, x, w, A, hl, hw, h => by
    rw [judL]
    rw [List.length_cons] at hw ⊢
    have o := okN_jud (lt := lt) (kd := kd) (skd := skd) hN hpos r (i + 1) (if (doA lt tvf kd skd A q.1 q.2.1 q.2.2).1 = false ∧ x = -1 then nI i else x) (w + 1) (doA lt tvf kd skd A q.1 q.2.1 q.2.2).2 (fun z hz => hl z (List.mem_cons_of_mem _ hz)) (by omega) (okN_do h hN (hl q List.mem_cons_self).1 (by omega) hpos)
    rwa [show w + (r.length + 1) = w + 1 + r.length by omega]
theorem judL_agr {N : Nat} {lt lt' : Nat → Nat → Bool} {tvf : Int32 → Nat → Int32 → Int32} {kd skd kd' skd' : Nat → Int32} (hN : N ≤ 20) (hpos : ∀ al r g, 0 < tvf al r g) (ha : Agr N lt lt') (hk : ∀ t, t < N → kd t = kd' t) : ∀ (l : List Ln) (i : Nat) (x : Int32) (w : Nat) (A : AF), lnsOK N l → w + l.length ≤ 1000 → okN N A w → (∀ q ∈ l, q.1 = 3 → skd q.2.2 = skd' q.2.2) → judL lt tvf kd skd l i x A = judL lt' tvf kd' skd' l i x A
  | [], _, _, _, _, _, _, _, _ => rfl
  | q :: r, i, x, w, A, hl, hw, h, hs => by
    rw [judL, judL]
    rw [List.length_cons] at hw
    have hq := hl q List.mem_cons_self
    have e := doA_agr (tvf := tvf) ha hk hq.1 h (by omega) (hs q List.mem_cons_self)
    rw [← e]
    exact judL_agr hN hpos ha hk r (i + 1) _ (w + 1) _ (fun z hz => hl z (List.mem_cons_of_mem _ hz)) (by omega) (okN_do h hN hq.1 (by omega) hpos) (fun z hz => hs z (List.mem_cons_of_mem _ hz))
section JUD
variable {G : pm_G} {d : Nat} {h : pm_H}
theorem La.wk (hL : La h) : h.1[41]? = some (0, 9) ∧ gp h 41 0 = 42 ∧ gp h 41 1 = 44 ∧ gp h 41 2 = 46 ∧ Ro h 42 43 30 ∧ Ro h 44 45 30 ∧ Ro h 46 47 30 :=
  ⟨hL.k (by decide +kernel), hL.p (by decide +kernel) (by omega), hL.p (by decide +kernel) (by omega), hL.p (by decide +kernel) (by omega), hL.ro (by decide +kernel) (by decide +kernel) (by decide +kernel) (by decide), hL.ro (by decide +kernel) (by decide +kernel) (by decide +kernel) (by decide), hL.ro (by decide +kernel) (by decide +kernel) (by decide +kernel) (by decide)⟩
theorem get_drop {α : Type} {l : List α} {i : Nat} (h : i < l.length) : ∃ q, l[i]? = some q ∧ l.drop i = q :: l.drop (i + 1) := ⟨l[i], List.getElem?_eq_getElem h, List.drop_eq_getElem_cons h⟩
theorem s_judgeLoop {post : pm_PT} {tvf : Int32 → Nat → Int32 → Int32} {N : Nat} {l : List Ln} (hL : La h) (hN : N ≤ 20) (hpos : ∀ al r t, 0 < tvf al r t) (hTV : TVc G d h tvf) (hW : WkC (gi h) l) (hll : l.length ≤ 30) (hl : lnsOK N l) : ∀ (j i w : Nat) (x : Int32) (A : AF) (M : Nat → Nat → Int32), i + j = l.length → w + j ≤ 1000 → okN N A w → CF M 97 A → TX (gi h) M → (∀ M', CF M' 97 (judL (kLt (gf h 16)) tvf (gi h 13) (gi h 11) (l.drop i) i x A).2 → TX (gi h) M' → post (some (.int (judL (kLt (gf h 16)) tvf (gi h 13) (gi h 11) (l.drop i) i x A).1)) (sm h M')) → Wp G (m_X8_judge, d + 8, 0, 0, post) (0, 0) 11 [.ref 90, .ref 41, .int x, .int (nI i), .null] [] (sm h M) := by
  obtain ⟨t0, t1, t2, t3, t4, t5, t6, t7, t8, t9⟩ := hL.tri
  obtain ⟨w0, w1, w2, w3, w4, w5, w6⟩ := hL.wk
  intro j
  induction j with
  | zero =>
    intro i w x A M hi hw hA hC hX k
    refine x_X8_judge_11 ⟨w0, ?_⟩
    rw [show gi (sm h M) 41 3 = nI l.length from (congrFun (hX 41 (by omega) (by decide)) 3).trans hW.1, if_pos (show nI l.length ≤ nI i by rw [show i = l.length by omega]; exact Int32.le_refl _)]
    rw [List.drop_eq_nil_of_le (by omega)] at k
    exact k M hC hX
  | succ j ih =>
    intro i w x A M hi hw hA hC hX k
    obtain ⟨q, e1, e2⟩ := get_drop (l := l) (i := i) (by omega)
    obtain ⟨v1, v2, v3⟩ := hW.2 i q e1
    have hq := hl q (List.mem_of_getElem? e1)
    rw [e2, judL] at k
    refine x_X8_judge_11 ⟨w0, ?_⟩
    rw [show gi (sm h M) 41 3 = nI l.length from (congrFun (hX 41 (by omega) (by decide)) 3).trans hW.1, if_neg (show ¬ nI l.length ≤ nI i from nI_nlen (by omega) (by omega)), nI_1]
    have r42 : Ro (sm h M) 42 43 30 := w4
    have r44 : Ro (sm h M) 44 45 30 := w5
    have r46 : Ro (sm h M) 46 47 30 := w6
    have i30 : i < 30 := by omega
    rw [show gp (sm h M) 41 0 = 42 from w1]
    refine ⟨w4.1, row_at r42 ?_⟩
    rw [show gp (sm h M) 41 1 = 44 from w2]
    refine ⟨w0, w5.1, row_at r44 ?_⟩
    rw [show gp (sm h M) 41 2 = 46 from w3]
    refine ⟨w0, w6.1, row_at r46 ?_⟩
    rw [rd_in i30 (by decide), rd_in i30 (by decide), rd_in i30 (by decide), show gi (sm h M) 43 i = nI q.1 from (congrFun (hX 43 (by omega) (by decide)) i).trans v1, show gi (sm h M) 45 i = nI q.2.1 from (congrFun (hX 45 (by omega) (by decide)) i).trans v2]
    have ek : gi (sm h M) 13 = gi h 13 := hX 13 (by omega) (by decide)
    have es : gi (sm h M) 11 = gi h 11 := hX 11 (by omega) (by decide)
    refine ⟨t0, s_doLine (d := d) (h := sm h M) (y := q.2.2) hL hpos (hTV.sm fun b hb => hX.law hb) hN hq.1 (fun z => (congrFun (hX 47 (by omega) (by decide)) i).trans (v3 z)) (by omega) hA hC (fun M' hC' hX' => ?_)⟩
    rw [ek, es] at hC' ⊢
    have oN := okN_do (lt := kLt (gf h 16)) (kd := gi h 13) (skd := gi h 11) hA hN hq.1 (by omega) hpos
    by_cases z : (doA (kLt (gf h 16)) tvf (gi h 13) (gi h 11) A q.1 q.2.1 q.2.2).1 = false
    · rw [if_pos (b2i_0.mpr z)]
      by_cases z2 : x = -1
      · rw [if_pos z2]
        rw [if_pos ⟨z, z2⟩] at k
        exact ih (i + 1) (w + 1) (nI i) _ M' (by omega) (by omega) oN hC' (hX.trans hX') k
      · rw [if_neg z2]
        rw [if_neg (fun y => z2 y.2)] at k
        exact ih (i + 1) (w + 1) x _ M' (by omega) (by omega) oN hC' (hX.trans hX') k
    · rw [if_neg (fun y => z (b2i_0.mp y))]
      rw [if_neg (fun y => z y.1)] at k
      exact ih (i + 1) (w + 1) x _ M' (by omega) (by omega) oN hC' (hX.trans hX') k
theorem s_judge {Q : Int32 → pm_H → Prop} {tvf : Int32 → Nat → Int32 → Int32} {N : Nat} {l : List Ln} {hm : Nat → Nat} (hL : La h) (hN : N ≤ 20) (hNi : gi h 8 1 = nI N) (hpos : ∀ al r t, 0 < tvf al r t) (hTV : TVc G d h tvf) (hh : ∀ t, t < N → hm t < 3 ∧ gi h 15 t = nI (hm t)) (hW : WkC (gi h) l) (hll : l.length ≤ 30) (hl : lnsOK N l) (k : ∀ M', CF M' 97 (judL (kLt (gf h 16)) tvf (gi h 13) (gi h 11) l 0 (-1) (tellF (kLt (gf h 16)) tvf hm N)).2 → TX (gi h) M' → Q (judL (kLt (gf h 16)) tvf (gi h 13) (gi h 11) l 0 (-1) (tellF (kLt (gf h 16)) tvf hm N)).1 (sm h M')) : ci G (d + 8) m_X8_judge [.ref 90, .ref 41] h Q := by
  obtain ⟨t0, t1, t2, t3, t4, t5, t6, t7, t8, t9⟩ := hL.tri
  refine ci_wp rfl (Nat.le_of_ble_eq_true rfl) rfl (x_X8_judge ?_)
  rw [t2]
  refine ⟨t0, t9.1, s_tell (d := d) hL (by decide) hpos hTV hNi hN hh (fun M1 hC1 hX1 => ?_)⟩
  exact s_judgeLoop (d := d) hL hN hpos hTV hW hll hl l.length 0 N (-1) _ M1 (Nat.zero_add _) (by omega) (okN_tell hN hpos N (Nat.le_refl _) (fun t ht => (hh t ht).1)) hC1 hX1.tx (fun M' a b => ⟨_, rfl, k M' a b⟩)
end JUD
section RJU
variable {G : pm_G} {d : Nat} {h : pm_H}
theorem La.ln (hL : La h) : gp h 446 14 = 455 ∧ h.1[455]? = some (1, 190) := ⟨hL.p (by decide +kernel) (by omega), hL.k (by decide +kernel)⟩
theorem ix_l (c i : Nat) : nI c + (3 * nI i) = nI (c + 3 * i) := by
  rw [show (3 : Int32) = nI 3 from rfl, pk_mul, nI_add]
theorem r_judgeLoop {post : pm_PT} {tvf : Int32 → Nat → Int32 → Int32} {N : Nat} {l : List Ln} {what : Int32} (hL : La h) (hNi : gi h 452 2 = nI N) (hN : N ≤ 20) (hpos : ∀ al r t, 0 < tvf al r t) (hG : GRc G (d + 20) h tvf) (hW : WkR (gi h 455) l) (hll : l.length ≤ 30) (hl : lnsOK N l) : ∀ (j i w : Nat) (x : Int32) (A : AF) (S F P : Nat → Int32), i + j = l.length → w + j ≤ 1000 → okN N A w → RA (gi h 460) S 3795 A → (x = -1 ∨ ∃ n : Nat, n < 30 ∧ x = nI n) → (∀ S' F' P', RA (gi h 460) S' 3795 (judL (rLt (gi h 460)) tvf (fun u => gi h 452 (7 + 4 * u)) (fun s => gi h 452 (5 + s)) (l.drop i) i x A).2 → RZ S S' 3795 → (if what = 0 then post (some (.int (judL (rLt (gi h 460)) tvf (fun u => gi h 452 (7 + 4 * u)) (fun s => gi h 452 (5 + s)) (l.drop i) i x A).1)) (s8 (fp h F' P') S') else if what = 1 then ci G (d + 23) m_X12_onFloor [.ref 446, .int 3795] (s8 (fp h F' P') S') fun r h1 => post (some (.int r)) h1 else ci G (d + 23) m_X12_raisedIn [.ref 446, .int 3795, .int (-1)] (s8 (fp h F' P') S') fun r h1 => post (some (.int r)) h1)) → Wp G (m_X12_judged, d + 24, 0, 0, post) (0, 0) 28 [.ref 446, .int what, .int x, .int (nI i)] [] (s8 (fp h F P) S) := by
  intro j
  induction j with
  | zero =>
    intro i w x A S F P hi hw hA hC hx k
    refine x_X12_judged_28 ⟨hL.md.1, ?_⟩
    rw [show gp (s8 (fp h F P) S) 446 14 = 455 from hL.ln.1, show (0 : Int32).toNatClampNeg = 0 from rfl, sfgi h S F P (by decide) (by decide) (by decide), hW.1]
    refine ⟨190, hL.ln.2, vp_nI (k := 0) (by decide) (by decide), ?_⟩
    rw [if_pos (show nI l.length ≤ nI i by rw [show i = l.length by omega]; exact Int32.le_refl _)]
    rw [List.drop_eq_nil_of_le (by omega)] at k
    exact k S F P hC RZ.rfl'
  | succ j ih =>
    intro i w x A S F P hi hw hA hC hx k
    obtain ⟨q, e1, e2⟩ := get_drop (l := l) (i := i) (by omega)
    obtain ⟨v1, v2, v3⟩ := hW.2 i q e1
    have hq := hl q (List.mem_of_getElem? e1)
    rw [e2, judL] at k
    refine x_X12_judged_28 ⟨hL.md.1, ?_⟩
    rw [show gp (s8 (fp h F P) S) 446 14 = 455 from hL.ln.1, show (0 : Int32).toNatClampNeg = 0 from rfl, sfgi h S F P (by decide) (by decide) (by decide), hW.1]
    refine ⟨190, hL.ln.2, vp_nI (k := 0) (by decide) (by decide), ?_⟩
    rw [if_neg (show ¬ nI l.length ≤ nI i from nI_nlen (by omega) (by omega)), nI_1]
    rw [show (1 : Int32) + (3 * nI i) = nI (1 + 3 * i) from ix_l 1 i, show (2 : Int32) + (3 * nI i) = nI (2 + 3 * i) from ix_l 2 i, show (3 : Int32) + (3 * nI i) = nI (3 + 3 * i) from ix_l 3 i, cl_nI (show 1 + 3 * i < 2 ^ 31 by omega), cl_nI (show 2 + 3 * i < 2 ^ 31 by omega), cl_nI (show 3 + 3 * i < 2 ^ 31 by omega), v1, v2]
    refine ⟨vp_nI (by omega) (by decide), vp_nI (by omega) (by decide), vp_nI (by omega) (by decide), ?_⟩
    refine r_doesLine (d := d) (y := q.2.2) hL.mk hNi hpos hG hN (by decide) hq.1 hq.2 v3 (by omega) hA hC (fun S' F' P' hC' hZ => ?_)
    have oN := okN_do (lt := rLt (gi h 460)) (kd := fun u => gi h 452 (7 + 4 * u)) (skd := fun s => gi h 452 (5 + s)) hA hN hq.1 (by omega) hpos
    have x0 : 0 ≤ x ↔ ¬ x = -1 := by
      rcases hx with z | ⟨n, hn, z⟩
      · rw [z]; decide
      · rw [z]; exact ⟨fun _ => nI_nm1 (by omega), fun _ => nI_0le (by omega)⟩
    by_cases z : (doA (rLt (gi h 460)) tvf (fun u => gi h 452 (7 + 4 * u)) (fun s => gi h 452 (5 + s)) A q.1 q.2.1 q.2.2).1 = false
    · rw [if_pos (b2i_0.mpr z)]
      by_cases z2 : x = -1
      · rw [if_neg (fun y => x0.mp y z2)]
        rw [if_pos ⟨z, z2⟩] at k
        exact ih (i + 1) (w + 1) (nI i) _ S' F' P' (by omega) (by omega) oN hC' (Or.inr ⟨i, by omega, rfl⟩) (fun S2 F2 P2 a b => k S2 F2 P2 a (hZ.trans b))
      · rw [if_pos (x0.mpr z2)]
        rw [if_neg (fun y => z2 y.2)] at k
        exact ih (i + 1) (w + 1) x _ S' F' P' (by omega) (by omega) oN hC' hx (fun S2 F2 P2 a b => k S2 F2 P2 a (hZ.trans b))
    · rw [if_neg (fun y => z (b2i_0.mp y))]
      rw [if_neg (fun y => z y.1)] at k
      exact ih (i + 1) (w + 1) x _ S' F' P' (by omega) (by omega) oN hC' hx (fun S2 F2 P2 a b => k S2 F2 P2 a (hZ.trans b))
end RJU
