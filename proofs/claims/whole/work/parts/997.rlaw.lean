/-! THE REFERENCE reads: its place among the TOKENS -/
def rwd (w : Nat) : Nat := if w < 18 then w + 1 else if w = 18 then 19 else if w = 19 then 20 else if w = 20 then 6 else 21
def WdR (h : pm_H) : Prop := ∀ w, w < 22 → gj h 451 w = lN (e37 (wdl.getD (rwd w) []))
def flv (s : PS) : Nat := if s.1 = 0 then 0 else s.1 + 16 * (hdT s.2).1
def wrg (k : Nat) (s : PS) : PS := if s.1 = 0 then (k, s.2) else s
def RS (h : pm_H) (L : List Tk) (s : PS) : Prop := TkR h L ∧ WdR h ∧ L.length ≤ 1001 ∧ TsO s.2 ∧ s.1 ≤ 5 ∧ ∃ i, L.drop i = s.2 ∧ gi h 446 7 = nI i ∧ gi h 446 8 = nI (flv s)
/-- what it may write as it reads -/
def FrQ (h h' : pm_H) : Prop := h'.1 = h.1 ∧ (∀ a, (a < 446 ∨ (446 < a ∧ a < 452) ∨ 455 < a) → gi h' a = gi h a) ∧ (∀ k, k ≠ 7 → k ≠ 8 → k ≠ 12 → gi h' 446 k = gi h 446 k) ∧ (∀ a, a ≠ 454 → gj h' a = gj h a) ∧ gf h' = gf h ∧ gp h' = gp h
theorem FrQ.rfl' {h : pm_H} : FrQ h h := ⟨rfl, fun _ _ => rfl, fun _ _ _ _ => rfl, fun _ _ => rfl, rfl, rfl⟩
theorem FrQ.trans {h h1 h2 : pm_H} (a : FrQ h h1) (b : FrQ h1 h2) : FrQ h h2 := ⟨b.1.trans a.1, fun x hx => (b.2.1 x hx).trans (a.2.1 x hx), fun k h1 h2 h3 => (b.2.2.1 k h1 h2 h3).trans (a.2.2.1 k h1 h2 h3), fun x hx => (b.2.2.2.1 x hx).trans (a.2.2.2.1 x hx), b.2.2.2.2.1.trans a.2.2.2.2.1, b.2.2.2.2.2.trans a.2.2.2.2.2⟩
theorem FrQ.la {h h' : pm_H} (f : FrQ h h') (hL : La h) : La h' := ⟨f.1.trans hL.1, fun a k hx => (congrFun (congrFun f.2.2.2.2.2 a) k).trans (hL.2 a k hx)⟩
theorem FrQ.tk {h h' : pm_H} {L : List Tk} (f : FrQ h h') (hT : TkR h L) : TkR h' L := fun i t hi => by
  obtain ⟨a1, a2, a3, a4, a5⟩ := hT i t hi
  have g := congrFun (f.2.2.2.1 450 (by decide)) i
  exact ⟨(congrFun (f.2.1 448 (by decide)) i).trans a1, (congrFun (f.2.1 449 (by decide)) i).trans a2, fun q => g.trans (a3 q), fun q => g.trans (a4 q), fun q => g.trans (a5 q)⟩
theorem FrQ.wd {h h' : pm_H} (f : FrQ h h') (hW : WdR h) : WdR h' := fun w hw => (congrFun (f.2.2.2.1 451 (by decide)) w).trans (hW w hw)
/-- the LAW's code alone, behind what stands -/
def FrE (c : Nat) (h h' : pm_H) : Prop := FrQ h h' ∧ gi h' 452 = gi h 452 ∧ gi h' 455 = gi h 455 ∧ gj h' 454 = gj h 454 ∧ ∀ j, j < c → gi h' 453 j = gi h 453 j
theorem FrE.rfl' {c : Nat} {h : pm_H} : FrE c h h := ⟨FrQ.rfl', rfl, rfl, rfl, fun _ _ => rfl⟩
theorem FrE.trans {c c' : Nat} {h h1 h2 : pm_H} (a : FrE c h h1) (b : FrE c' h1 h2) (hc : c ≤ c') : FrE c h h2 := ⟨a.1.trans b.1, b.2.1.trans a.2.1, b.2.2.1.trans a.2.2.1, b.2.2.2.1.trans a.2.2.2.1, fun j hj => (b.2.2.2.2 j (by omega)).trans (a.2.2.2.2 j hj)⟩
theorem FrE.wi {c : Nat} {h : pm_H} {k : Nat} {v : Int32} (hk : k = 7 ∨ k = 8 ∨ k = 12) : FrE c h (si h 446 k v) := by
  have n : ∀ a, a ≠ 446 → gi (si h 446 k v) a = gi h a := fun a ha => pm_u_ne _ _ _ ha
  refine ⟨⟨rfl, fun a ha => n a (by omega), fun j h1 h2 h3 => ?_, fun _ _ => rfl, rfl, rfl⟩, n _ (by decide), n _ (by decide), rfl, fun j _ => congrFun (n 453 (by decide)) j⟩
  show pm_u (gi h) 446 k v 446 j = _
  rw [pm_u_at]; exact if_neg (by omega)
theorem FrE.wc {c : Nat} {h : pm_H} {v : Int32} : FrE c h (si h 453 c v) := by
  have n : ∀ a, a ≠ 453 → gi (si h 453 c v) a = gi h a := fun a ha => pm_u_ne _ _ _ ha
  refine ⟨⟨rfl, fun a ha => n a (by omega), fun j h1 h2 h3 => congrFun (n 446 (by decide)) j, fun _ _ => rfl, rfl, rfl⟩, n _ (by decide), n _ (by decide), rfl, fun j hj => ?_⟩
  show pm_u (gi h) 453 c v 453 j = _
  rw [pm_u_at]; exact if_neg (by omega)
theorem RS.mv {h h' : pm_H} {L : List Tk} {s s' : PS} (hR : RS h L s) (f : FrQ h h') (e1 : TsO s'.2) (e2 : s'.1 ≤ 5) (e3 : ∃ i, L.drop i = s'.2 ∧ gi h' 446 7 = nI i ∧ gi h' 446 8 = nI (flv s')) : RS h' L s' := ⟨f.tk hR.1, f.wd hR.2.1, hR.2.2.1, e1, e2, e3⟩
theorem RS.keep {h h' : pm_H} {L : List Tk} {s : PS} (hR : RS h L s) (f : FrQ h h') (e7 : gi h' 446 7 = gi h 446 7) (e8 : gi h' 446 8 = gi h 446 8) : RS h' L s := by
  obtain ⟨i, a, b, c⟩ := hR.2.2.2.2.2
  exact hR.mv f hR.2.2.2.1 hR.2.2.2.2.1 ⟨i, a, e7.trans b, e8.trans c⟩
theorem drop_hd {L : List Tk} {i : Nat} {s : List Tk} (h : L.drop i = s) (hs : TsO s) : L[i]? = some (hdT s) ∧ i < L.length ∧ L.drop (i + 1) = s.tail := by
  cases s with
  | nil => exact absurd hs id
  | cons t r =>
    have hi : i < L.length := by
      by_cases c : i < L.length
      · exact c
      · rw [List.drop_eq_nil_iff.mpr (by omega)] at h; cases h
    have e := List.drop_eq_getElem_cons hi
    rw [e] at h
    have h1 : L[i] = t ∧ L.drop (i + 1) = r := List.cons_eq_cons.mp h
    refine ⟨?_, hi, h1.2⟩
    rw [List.getElem?_eq_getElem hi, h1.1]; rfl
theorem RS.at {h : pm_H} {L : List Tk} {s : PS} (hR : RS h L s) : ∃ i, i < 1001 ∧ gi h 446 7 = nI i ∧ gi h 446 8 = nI (flv s) ∧ TokR h i (hdT s.2) ∧ TkO (hdT s.2) ∧ (gi h 446 8 = 0 ↔ s.1 = 0) := by
  obtain ⟨a1, a2, a3, a4, a5, i, b1, b2, b3⟩ := hR
  obtain ⟨c1, c2, c3⟩ := drop_hd b1 a4
  have hk := a4.at.1
  refine ⟨i, by omega, b2, b3, a1 i _ c1, hk, ?_⟩
  rw [b3]
  have hp := hk.2.2.2.1
  have : flv s < 2 ^ 31 := by unfold flv; split <;> omega
  rw [show (0 : Int32) = nI 0 from rfl, nI_inj this (by decide)]
  unfold flv
  split <;> omega
theorem rwd_lt {w : Nat} (h : w < 22) : 0 < rwd w ∧ rwd w < 22 := by
  unfold rwd
  split
  · omega
  · split
    · omega
    · split
      · omega
      · split <;> omega
theorem La.rd {h : pm_H} (hL : La h) : gp h 446 9 = 451 ∧ h.1[451]? = some (2, 22) ∧ gp h 446 11 = 453 ∧ h.1[453]? = some (1, 2200) := ⟨hL.p (by decide +kernel) (by omega), hL.k (by decide +kernel), hL.p (by decide +kernel) (by omega), hL.k (by decide +kernel)⟩
section RLA
variable {G : pm_G} {d : Nat} {h : pm_H} {L : List Tk} {s : PS}
theorem r_isSign {c : Nat} {Q : Int32 → pm_H → Prop} (hL : La h) (hR : RS h L s) (hc : c < 200) (k : Q (b2i (decide (s.1 = 0) && tS c (hdT s.2))) h) : ci G (d + 1) m_X12_isSign [.ref 446, .int (nI c)] h Q := by
  obtain ⟨i, i1, i2, i3, ⟨t1, t2, t3, t4, t5⟩, tk, i4⟩ := hR.at
  obtain ⟨p1, p4, p5, p6, q7, q8, q9, q0⟩ := hL.tok
  refine ci_wp rfl (Nat.le_of_ble_eq_true rfl) rfl (x_X12_isSign ⟨hL.md.1, ?_⟩)
  by_cases f : s.1 = 0
  · rw [if_pos (i4.mpr f), p4]
    rw [decide_eq_true f, Bool.true_and] at k
    refine ⟨1002, q8, by rw [i2]; exact vp_nI (by omega) (by decide), ?_⟩
    rw [i2, cl_nI (show i < 2 ^ 31 by omega), t1]
    have so := tk.2.2.2.2
    by_cases e3 : (hdT s.2).2.1 = 3
    · rw [if_pos (show nI (hdT s.2).2.1 = 3 by rw [e3]; rfl), p6]
      refine ⟨1002, q0, vp_nI (by omega) (by decide), ?_⟩
      rw [t5 e3, nI_l (show c < 2 ^ 31 by omega)]
      have h200 := tk.2.2.1 e3
      have iff := (lcmp_e (a := (hdT s.2).2.2.headD 0) (b := c) (by omega) (by omega)).1
      unfold tS at k
      rw [decide_eq_true e3, Bool.true_and] at k
      by_cases ec : (hdT s.2).2.2.headD 0 = c
      · rw [if_pos (iff.mpr ec)]
        rw [decide_eq_true ec] at k
        exact ⟨_, rfl, k⟩
      · rw [if_neg (fun q => ec (iff.mp q))]
        rw [decide_eq_false ec] at k
        exact ⟨_, rfl, k⟩
    · rw [if_neg (show ¬ nI (hdT s.2).2.1 = 3 from fun q => e3 ((nI_inj (b := 3) (show (hdT s.2).2.1 < 2 ^ 31 by omega) (by decide)).mp q))]
      unfold tS at k
      rw [decide_eq_false e3, Bool.false_and] at k
      exact ⟨_, rfl, k⟩
  · rw [if_neg (fun q => f (i4.mp q))]
    rw [decide_eq_false f, Bool.false_and] at k
    exact ⟨_, rfl, k⟩
theorem r_isWord {w : Nat} {Q : Int32 → pm_H → Prop} (hL : La h) (hR : RS h L s) (hw : w < 22) (k : Q (b2i (decide (s.1 = 0) && tW (rwd w) (hdT s.2))) h) : ci G (d + 1) m_X12_isWord [.ref 446, .int (nI w)] h Q := by
  obtain ⟨i, i1, i2, i3, ⟨t1, t2, t3, t4, t5⟩, tk, i4⟩ := hR.at
  obtain ⟨p1, p4, p5, p6, q7, q8, q9, q0⟩ := hL.tok
  refine ci_wp rfl (Nat.le_of_ble_eq_true rfl) rfl (x_X12_isWord ⟨hL.md.1, ?_⟩)
  by_cases f : s.1 = 0
  · rw [if_pos (i4.mpr f), p4]
    rw [decide_eq_true f, Bool.true_and] at k
    refine ⟨1002, q8, by rw [i2]; exact vp_nI (by omega) (by decide), ?_⟩
    rw [i2, cl_nI (show i < 2 ^ 31 by omega), t1]
    have so := tk.2.2.2.2
    by_cases e1 : (hdT s.2).2.1 = 1
    · rw [if_pos (show nI (hdT s.2).2.1 = 1 by rw [e1]; rfl), p6, hL.rd.1]
      refine ⟨1002, q0, vp_nI (by omega) (by decide), 22, hL.rd.2.1, vp_nI hw (by decide), ?_⟩
      obtain ⟨l1, l2⟩ := tk.1 e1
      obtain ⟨r1, r2⟩ := rwd_lt hw
      obtain ⟨-, -, w8, wl⟩ := wdl_ok (rwd w) (List.mem_range.mpr r2)
      rw [t3 e1, cl_nI (show w < 2 ^ 31 by omega), hR.2.1 w hw]
      have b1 := e37_lt l1 l2
      have b2 := e37_lt (l := wdl.getD (rwd w) []) wl w8
      have iff := (lcmp_e (a := e37 (hdT s.2).2.2) (b := e37 (wdl.getD (rwd w) [])) (by omega) (by omega)).1
      have ix := wix_is (l := (hdT s.2).2.2) r1 r2
      unfold tW at k
      rw [decide_eq_true e1, Bool.true_and] at k
      by_cases ec : (hdT s.2).2.2 = wdl.getD (rwd w) []
      · rw [if_pos (iff.mpr (by rw [ec]))]
        rw [decide_eq_true (ix.mpr ec)] at k
        exact ⟨_, rfl, k⟩
      · rw [if_neg (fun q => ec (e37_inj l1 wl (iff.mp q)))]
        rw [decide_eq_false (fun q => ec (ix.mp q))] at k
        exact ⟨_, rfl, k⟩
    · rw [if_neg (show ¬ nI (hdT s.2).2.1 = 1 from fun q => e1 ((nI_inj (b := 1) (show (hdT s.2).2.1 < 2 ^ 31 by omega) (by decide)).mp q))]
      unfold tW at k
      rw [decide_eq_false e1, Bool.false_and] at k
      exact ⟨_, rfl, k⟩
  · rw [if_neg (fun q => f (i4.mp q))]
    rw [decide_eq_false f, Bool.false_and] at k
    exact ⟨_, rfl, k⟩
theorem RS.go1 {c : Nat} (hR : RS h L s) (f : s.1 = 0) (h0 : (hdT s.2).2.1 ≠ 0) : FrE c h (si h 446 7 (gi h 446 7 + 1)) ∧ RS (si h 446 7 (gi h 446 7 + 1)) L (0, s.2.tail) := by
  have fr : FrE c h (si h 446 7 (gi h 446 7 + 1)) := FrE.wi (Or.inl rfl)
  refine ⟨fr, ?_⟩
  obtain ⟨a1, a2, a3, a4, a5, i, b1, b2, b3⟩ := id hR
  obtain ⟨c1, c2, c3⟩ := drop_hd b1 a4
  refine hR.mv fr.1 (a4.at.2.1 h0) (Nat.zero_le _) ⟨i + 1, c3, ?_, ?_⟩
  · show gi h 446 7 + 1 = _
    rw [b2, nI_1]
  · show gi h 446 8 = _
    rw [b3]
    unfold flv
    rw [if_pos f]; rfl
theorem r_wrong {kd c : Nat} {Q : pm_H → Prop} (hL : La h) (hR : RS h L s) (h1 : kd ≤ 5) (h0 : 0 < kd) (k : ∀ h', FrE c h h' → RS h' L (wrg kd s) → gi h' 446 12 = gi h 446 12 → gi h' 453 = gi h 453 → Q h') : cv G (d + 1) m_X12_wrong [.ref 446, .int (nI kd)] h Q := by
  obtain ⟨i, i1, i2, i3, ⟨t1, t2, t3, t4, t5⟩, tk, i4⟩ := hR.at
  obtain ⟨p1, p4, p5, p6, q7, q8, q9, q0⟩ := hL.tok
  refine cv_wp rfl (Nat.le_of_ble_eq_true rfl) rfl (x_X12_wrong ⟨hL.md.1, ?_⟩)
  unfold wrg at k
  by_cases f : s.1 = 0
  · rw [if_pos (i4.mpr f), p5]
    rw [if_pos f] at k
    refine ⟨1002, q9, by rw [i2]; exact vp_nI (by omega) (by decide), ?_⟩
    rintro _ rfl
    rw [i2, cl_nI (show i < 2 ^ 31 by omega), t2, show (16 : Int32) = nI 16 from rfl, pk_mul, nI_add]
    have fr : FrE c h (si h 446 8 (nI (kd + 16 * (hdT s.2).1))) := FrE.wi (Or.inr (Or.inl rfl))
    obtain ⟨j, b1, b2, b3⟩ := hR.2.2.2.2.2
    refine ⟨rfl, k _ fr (hR.mv fr.1 hR.2.2.2.1 h1 ⟨j, b1, b2, ?_⟩) rfl rfl⟩
    unfold flv
    rw [if_neg (show ¬ (kd, s.2).1 = 0 from fun q => by have q : kd = 0 := q; omega)]
    rfl
  · rw [if_neg (fun q => f (i4.mp q))]
    rw [if_neg f] at k
    exact ⟨rfl, k h FrE.rfl' hR rfl rfl⟩
theorem tS_sort {c : Nat} {t : Tk} (h : tS c t = true) : t.2.1 = 3 := by unfold tS at h; rw [Bool.and_eq_true, decide_eq_true_iff] at h; exact h.1
theorem tW_sort {c : Nat} {t : Tk} (h : tW c t = true) : t.2.1 = 1 := by unfold tW at h; rw [Bool.and_eq_true, decide_eq_true_iff] at h; exact h.1
theorem r_hasSign {c e : Nat} {Q : Int32 → pm_H → Prop} (hL : La h) (hR : RS h L s) (hc : c < 200)
    (ky : s.1 = 0 → tS c (hdT s.2) = true → ∀ h', FrE e h h' → RS h' L (0, s.2.tail) → gi h' 446 12 = gi h 446 12 → gi h' 453 = gi h 453 → Q 1 h')
    (kn : ¬ (s.1 = 0 ∧ tS c (hdT s.2) = true) → ∀ h', FrE e h h' → RS h' L s → gi h' 446 12 = gi h 446 12 → gi h' 453 = gi h 453 → Q 0 h') : ci G (d + 2) m_X12_hasSign [.ref 446, .int (nI c)] h Q := by
  refine ci_wp rfl (Nat.le_of_ble_eq_true rfl) rfl (x_X12_hasSign ⟨hL.md.1, r_isSign (d := d) hL hR hc ⟨hL.md.1, ?_⟩⟩)
  by_cases f : s.1 = 0 ∧ tS c (hdT s.2) = true
  · rw [decide_eq_true f.1, f.2, if_neg (show ¬ b2i (true && true) = 0 by decide)]
    rintro _ rfl
    obtain ⟨a, b⟩ := hR.go1 (c := e) f.1 (by rw [tS_sort f.2]; decide)
    exact ⟨Or.inr rfl, _, rfl, ky f.1 f.2 _ a b rfl rfl⟩
  · have z : (decide (s.1 = 0) && tS c (hdT s.2)) = false := by
      cases hz : (decide (s.1 = 0) && tS c (hdT s.2)) with
      | false => rfl
      | true => rw [Bool.and_eq_true, decide_eq_true_iff] at hz; exact absurd hz f
    rw [z, if_pos (show b2i false = 0 from rfl)]
    rintro _ rfl
    rw [Int32.add_zero]
    exact ⟨Or.inl rfl, _, rfl, kn f _ (FrE.wi (Or.inl rfl)) (hR.keep (FrE.wi (c := 0) (Or.inl rfl)).1 rfl rfl) rfl rfl⟩
theorem r_hasWord {w e : Nat} {Q : Int32 → pm_H → Prop} (hL : La h) (hR : RS h L s) (hw : w < 22)
    (ky : s.1 = 0 → tW (rwd w) (hdT s.2) = true → ∀ h', FrE e h h' → RS h' L (0, s.2.tail) → gi h' 446 12 = gi h 446 12 → gi h' 453 = gi h 453 → Q 1 h')
    (kn : ¬ (s.1 = 0 ∧ tW (rwd w) (hdT s.2) = true) → ∀ h', FrE e h h' → RS h' L s → gi h' 446 12 = gi h 446 12 → gi h' 453 = gi h 453 → Q 0 h') : ci G (d + 2) m_X12_hasWord [.ref 446, .int (nI w)] h Q := by
  refine ci_wp rfl (Nat.le_of_ble_eq_true rfl) rfl (x_X12_hasWord ⟨hL.md.1, r_isWord (d := d) hL hR hw ⟨hL.md.1, ?_⟩⟩)
  by_cases f : s.1 = 0 ∧ tW (rwd w) (hdT s.2) = true
  · rw [decide_eq_true f.1, f.2, if_neg (show ¬ b2i (true && true) = 0 by decide)]
    rintro _ rfl
    obtain ⟨a, b⟩ := hR.go1 (c := e) f.1 (by rw [tW_sort f.2]; decide)
    exact ⟨Or.inr rfl, _, rfl, ky f.1 f.2 _ a b rfl rfl⟩
  · have z : (decide (s.1 = 0) && tW (rwd w) (hdT s.2)) = false := by
      cases hz : (decide (s.1 = 0) && tW (rwd w) (hdT s.2)) with
      | false => rfl
      | true => rw [Bool.and_eq_true, decide_eq_true_iff] at hz; exact absurd hz f
    rw [z, if_pos (show b2i false = 0 from rfl)]
    rintro _ rfl
    rw [Int32.add_zero]
    exact ⟨Or.inl rfl, _, rfl, kn f _ (FrE.wi (Or.inl rfl)) (hR.keep (FrE.wi (c := 0) (Or.inl rfl)).1 rfl rfl) rfl rfl⟩
theorem r_takeSign {c e : Nat} {Q : pm_H → Prop} (hL : La h) (hR : RS h L s) (hc : c < 200)
    (k : ∀ h', FrE e h h' → RS h' L (stp (if tS c (hdT s.2) = true then 0 else 1) s) → gi h' 446 12 = gi h 446 12 → gi h' 453 = gi h 453 → Q h') : cv G (d + 2) m_X12_takeSign [.ref 446, .int (nI c)] h Q := by
  refine cv_wp rfl (Nat.le_of_ble_eq_true rfl) rfl (x_X12_takeSign ⟨hL.md.1, r_isSign (d := d) hL hR hc ?_⟩)
  unfold stp at k
  by_cases f : s.1 = 0 ∧ tS c (hdT s.2) = true
  · rw [decide_eq_true f.1, f.2, if_neg (show ¬ b2i (true && true) = 0 by decide)]
    refine ⟨hL.md.1, ?_⟩
    rintro _ rfl
    obtain ⟨a, b⟩ := hR.go1 (c := e) f.1 (by rw [tS_sort f.2]; decide)
    rw [if_pos f.1, if_pos f.2, if_pos rfl] at k
    exact ⟨rfl, k _ a b rfl rfl⟩
  · have z : (decide (s.1 = 0) && tS c (hdT s.2)) = false := by
      cases hz : (decide (s.1 = 0) && tS c (hdT s.2)) with
      | false => rfl
      | true => rw [Bool.and_eq_true, decide_eq_true_iff] at hz; exact absurd hz f
    rw [z, if_pos (show b2i false = 0 from rfl)]
    refine ⟨hL.md.1, r_wrong (d := d) (c := e) (kd := 1) hL hR (by decide) (by decide) (fun h' a b c1 c2 => ⟨rfl, k h' a ?_ c1 c2⟩)⟩
    unfold wrg at b
    by_cases f1 : s.1 = 0
    · rw [if_pos f1] at b ⊢
      rw [if_neg (show ¬ tS c (hdT s.2) = true from fun q => f ⟨f1, q⟩), if_neg (by decide)]
      exact b
    · rw [if_neg f1] at b ⊢; exact b
theorem r_emit {c o a : Nat} {Q : pm_H → Prop} (hL : La h) (hc : gi h 446 12 = nI c) (hb : c < 1100) (k : Q (si (si h 453 (1100 + c) (nI (o + 16 * a))) 446 12 (nI (c + 1)))) : cv G (d + 1) m_X12_emit [.ref 446, .int (nI o), .int (nI a)] h Q := by
  obtain ⟨-, -, p11, q53⟩ := hL.rd
  refine cv_wp rfl (Nat.le_of_ble_eq_true rfl) rfl (x_X12_emit ⟨hL.md.1, 2200, by rw [p11]; exact q53, ?_⟩)
  rw [hc, p11, show (1100 : Int32) = nI 1100 from rfl, nI_add, cl_nI (show 1100 + c < 2 ^ 31 by omega), show (16 : Int32) = nI 16 from rfl, pk_mul, nI_add]
  refine ⟨vp_nI (by omega) (by decide), ?_⟩
  rintro _ rfl _ rfl
  rw [show gi (si h 453 (1100 + c) (nI (o + 16 * a))) 446 12 = nI c from (congrFun (pm_u_ne (gi h) (1100 + c) (nI (o + 16 * a)) (show 446 ≠ 453 by decide)) 12).trans hc, nI_1]
  exact ⟨rfl, k⟩
end RLA
