/-! THE REFERENCE reads names, kinds, numbers -/
def FrP (h h' : pm_H) : Prop := FrQ h h' ∧ gi h' 452 = gi h 452 ∧ gi h' 455 = gi h 455 ∧ gi h' 453 = gi h 453 ∧ gj h' 454 = gj h 454 ∧ gi h' 446 12 = gi h 446 12
theorem FrP.rfl' {h : pm_H} : FrP h h := ⟨FrQ.rfl', rfl, rfl, rfl, rfl, rfl⟩
theorem FrP.trans {h h1 h2 : pm_H} (a : FrP h h1) (b : FrP h1 h2) : FrP h h2 := ⟨a.1.trans b.1, b.2.1.trans a.2.1, b.2.2.1.trans a.2.2.1, b.2.2.2.1.trans a.2.2.2.1, b.2.2.2.2.1.trans a.2.2.2.2.1, b.2.2.2.2.2.trans a.2.2.2.2.2⟩
theorem FrE.p {c : Nat} {h h' : pm_H} (f : FrE c h h') (e1 : gi h' 446 12 = gi h 446 12) (e2 : gi h' 453 = gi h 453) : FrP h h' := ⟨f.1, f.2.1, f.2.2.1, e2, f.2.2.2.1, e1⟩
theorem FrP.la {h h' : pm_H} (f : FrP h h') (hL : La h) : La h' := f.1.la hL
def NdN (ns : List (List Nat)) : Prop := ∀ x y, x < ns.length → y < ns.length → ns.getD x [] = ns.getD y [] → x = y
def NmR (h : pm_H) (b : Nat) (ns : List (List Nat)) : Prop := ∀ i, i < ns.length → gj h 454 (b + i) = lN (e37 (ns.getD i []))
theorem La.nms {h : pm_H} (hL : La h) : gp h 446 13 = 454 ∧ h.1[454]? = some (2, 50) ∧ gp h 446 10 = 452 ∧ h.1[452]? = some (1, 180) := ⟨hL.p (by decide +kernel) (by omega), hL.k (by decide +kernel), hL.p (by decide +kernel) (by omega), hL.k (by decide +kernel)⟩
section RRD
variable {G : pm_G} {d : Nat} {L : List Tk} {h : pm_H} {s : PS}
theorem rp_wrong {kd : Nat} {Q : pm_H → Prop} (hL : La h) (hR : RS h L s) (h1 : kd ≤ 5) (h0 : 0 < kd) (k : ∀ h', FrP h h' → RS h' L (stp kd s) → Q h') : cv G (d + 1) m_X12_wrong [.ref 446, .int (nI kd)] h Q := by
  refine r_wrong (d := d) (c := 0) hL hR h1 h0 (fun h' a b c1 c2 => k h' (a.p c1 c2) ?_)
  have e : wrg kd s = stp kd s := by
    unfold wrg stp
    by_cases f : s.1 = 0
    · rw [if_pos f, if_pos f, if_neg (by omega)]
    · rw [if_neg f, if_neg f]
  rw [← e]; exact b
theorem RS.go (hR : RS h L s) (f : s.1 = 0) (h0 : (hdT s.2).2.1 ≠ 0) : FrP h (si h 446 7 (gi h 446 7 + 1)) ∧ RS (si h 446 7 (gi h 446 7 + 1)) L (0, s.2.tail) := by
  obtain ⟨a, b⟩ := hR.go1 (c := 0) f h0
  exact ⟨a.p rfl rfl, b⟩
theorem RS.stay (hR : RS h L s) : FrP h (si h 446 7 (gi h 446 7 + 0)) ∧ RS (si h 446 7 (gi h 446 7 + 0)) L s := by
  rw [Int32.add_zero]
  have a : FrE 0 h (si h 446 7 (gi h 446 7)) := FrE.wi (Or.inl rfl)
  exact ⟨a.p rfl rfl, hR.keep a.1 rfl rfl⟩
theorem wh_name (f : s.1 = 0) (h1 : (hdT s.2).2.1 = 1) : (wh s 0 18).isSome = !(nameT (hdT s.2)) := by
  have ex : ∀ k, k < 18 → ((decide (s.1 = 0) && tW (rwd (0 + k)) (hdT s.2)) = true ↔ wcl (hdT s.2) = k + 1) := by
    intro k hk
    have e : rwd (0 + k) = k + 1 := by unfold rwd; rw [Nat.zero_add, if_pos hk]
    rw [e, decide_eq_true f, Bool.true_and, tW_w (by omega), decide_eq_true_iff]
  have lt := wcl_lt (hdT s.2)
  cases hw : wh s 0 18 with
  | none =>
    have n := lst_none.mp hw
    have : ¬ (1 ≤ wcl (hdT s.2) ∧ wcl (hdT s.2) ≤ 18) := by
      intro q
      have := n (wcl (hdT s.2) - 1) (by omega)
      rw [(ex (wcl (hdT s.2) - 1) (by omega)).mpr (by omega)] at this
      cases this
    have nt : nameT (hdT s.2) = true := by
      unfold nameT
      rw [decide_eq_true h1, Bool.true_and, Bool.or_eq_true, decide_eq_true_iff, decide_eq_true_iff]
      omega
    rw [nt]; rfl
  | some x =>
    obtain ⟨x1, x2⟩ := lst_lt hw
    have := (ex x x1).mp x2
    have nt : nameT (hdT s.2) = false := by
      unfold nameT
      rw [decide_eq_true h1, Bool.true_and, Bool.or_eq_false_iff, decide_eq_false_iff_not, decide_eq_false_iff_not]
      omega
    rw [nt]; rfl
theorem r_isName {Q : Int32 → pm_H → Prop} (hL : La h) (hR : RS h L s) (k : Q (b2i (decide (s.1 = 0) && nameT (hdT s.2))) h) : ci G (d + 3) m_X12_isName [.ref 446] h Q := by
  obtain ⟨i, i1, i2, i3, ⟨t1, t2, t3, t4, t5⟩, tk, i4⟩ := hR.at
  obtain ⟨p1, p4, p5, p6, q7, q8, q9, q0⟩ := hL.tok
  refine ci_wp rfl (Nat.le_of_ble_eq_true rfl) rfl (x_X12_isName ⟨hL.md.1, ?_⟩)
  by_cases f : s.1 = 0
  · rw [if_pos (i4.mpr f), p4]
    refine ⟨1002, q8, by rw [i2]; exact vp_nI (by omega) (by decide), ?_⟩
    rw [i2, cl_nI (show i < 2 ^ 31 by omega), t1]
    have so := tk.2.2.2.2
    by_cases e1 : (hdT s.2).2.1 = 1
    · rw [if_pos (show nI (hdT s.2).2.1 = 1 by rw [e1]; rfl)]
      refine r_wordHere (d := d) (f := 0) (many := 18) hL hR (by decide) ?_
      have w := wh_name f e1
      have op := oI_pos (o := wh s 0 18) (n := 0) (fun x hx => by have := (lst_lt hx).1; omega)
      rw [decide_eq_true f, Bool.true_and] at k
      by_cases c : 0 ≤ oI (wh s 0 18)
      · rw [if_pos c]
        rw [op.mp c] at w
        have : nameT (hdT s.2) = false := by
          cases z : nameT (hdT s.2) with
          | false => rfl
          | true => rw [z] at w; cases w
        rw [this] at k
        exact ⟨_, rfl, k⟩
      · rw [if_neg c]
        have : nameT (hdT s.2) = true := by
          cases z : nameT (hdT s.2) with
          | true => rfl
          | false => rw [z] at w; exact absurd (op.mpr w) c
        rw [this] at k
        exact ⟨_, rfl, k⟩
    · rw [if_neg (show ¬ nI (hdT s.2).2.1 = 1 from fun q => e1 ((nI_inj (b := 1) (show (hdT s.2).2.1 < 2 ^ 31 by omega) (by decide)).mp q))]
      have : nameT (hdT s.2) = false := by unfold nameT; rw [decide_eq_false e1, Bool.false_and]
      rw [this, Bool.and_false] at k
      exact ⟨_, rfl, k⟩
  · rw [if_neg (fun q => f (i4.mp q))]
    rw [decide_eq_false f, Bool.false_and] at k
    exact ⟨_, rfl, k⟩
theorem r_nameAt {b : Nat} {ns : List (List Nat)} {Q : Int32 → pm_H → Prop} (hL : La h) (hR : RS h L s) (h1 : (hdT s.2).2.1 = 1) (hN : NmR h b ns) (hO : NmO ns) (hd : NdN ns) (hb : b + ns.length ≤ 50) (k : Q (oI (idN ns (hdT s.2))) h) : ci G (d + 1) m_X12_nameAt [.ref 446, .int (nI b), .int (nI ns.length)] h Q := by
  obtain ⟨i, i1, i2, i3, ⟨t1, t2, t3, t4, t5⟩, tk, i4⟩ := hR.at
  obtain ⟨p1, p4, p5, p6, q7, q8, q9, q0⟩ := hL.tok
  obtain ⟨m1, m2, -⟩ := hL.nms
  have el : idN ns (hdT s.2) = lst (fun i => decide (ns.getD i [] = (hdT s.2).2.2)) ns.length := by
    unfold idN
    exact fnd_lst (fun x y hx hy e1 e2 => hd x y hx hy ((of_decide_eq_true e1).trans (of_decide_eq_true e2).symm))
  rw [el] at k
  refine ci_wp rfl (Nat.le_of_ble_eq_true rfl) rfl (x_X12_nameAt ?_)
  have key := up_to (P := fun n => Wp G (m_X12_nameAt, d + 1, 0, 0, fun v h1 => ∃ r, v = some (.int r) ∧ Q r h1) (0, 0) 5 [.ref 446, .int (nI b), .int (nI ns.length), .int (oI (lst (fun i => decide (ns.getD i [] = (hdT s.2).2.2)) n)), .int (nI n)] [] h) ns.length (fun n hn ih => ?_) ?_
  · exact key
  · refine x_X12_nameAt_5 ?_
    rw [if_neg (show ¬ nI ns.length ≤ nI n from nI_nlen hn (by omega)), nI_add, m1, p6, i2, nI_1]
    refine ⟨hL.md.1, 50, m2, vp_nI (by omega) (by decide), 1002, q0, vp_nI (by omega) (by decide), ?_⟩
    rw [cl_nI (show b + n < 2 ^ 31 by omega), cl_nI (show i < 2 ^ 31 by omega), hN n hn, t3 h1]
    have e : ns.getD n [] = ns[n] := by simp [List.getD_eq_getElem?_getD, hn]
    obtain ⟨a1, a2⟩ := hO ns[n] (List.getElem_mem hn)
    obtain ⟨b1, b2⟩ := tk.1 h1
    have l1 := e37_lt a1 a2
    have l2 := e37_lt b1 b2
    have iff := (lcmp_e (a := e37 ns[n]) (b := e37 (hdT s.2).2.2) (by omega) (by omega)).1
    have st : lst (fun i => decide (ns.getD i [] = (hdT s.2).2.2)) (n + 1) = if decide (ns.getD n [] = (hdT s.2).2.2) = true then some n else lst (fun i => decide (ns.getD i [] = (hdT s.2).2.2)) n := rfl
    rw [st, e] at ih
    rw [e]
    by_cases c : ns[n] = (hdT s.2).2.2
    · rw [if_pos (iff.mpr (by rw [c]))]
      rw [if_pos (decide_eq_true c)] at ih
      exact ih
    · rw [if_neg (fun q => c (e37_inj a1 b1 (iff.mp q)))]
      rw [if_neg (fun q => c (of_decide_eq_true q))] at ih
      exact ih
  · refine x_X12_nameAt_5 ?_
    rw [if_pos (Int32.le_refl _)]
    exact ⟨_, rfl, k⟩
theorem r_read {n : Nat} {Q : Int32 → pm_H → Prop} (hL : La h) (hn : n < 90) (k : Q (gi h 452 (90 + n)) h) : ci G (d + 1) m_X12_read [.ref 446, .int (nI n)] h Q := by
  obtain ⟨-, -, m3, m4⟩ := hL.nms
  refine ci_wp rfl (Nat.le_of_ble_eq_true rfl) rfl (x_X12_read ⟨hL.md.1, 180, by rw [m3]; exact m4, ?_⟩)
  rw [m3, show (90 : Int32) = nI 90 from rfl, nI_add, cl_nI (show 90 + n < 2 ^ 31 by omega)]
  exact ⟨vp_nI (by omega) (by decide), _, rfl, k⟩
theorem r_takeWord {w : Nat} {Q : pm_H → Prop} (hL : La h) (hR : RS h L s) (hw : w < 22) (k : ∀ h', FrP h h' → RS h' L (wWrd (rwd w) s) → Q h') : cv G (d + 3) m_X12_takeWord [.ref 446, .int (nI w)] h Q := by
  unfold wWrd stp at k
  refine cv_wp rfl (Nat.le_of_ble_eq_true rfl) rfl (x_X12_takeWord ⟨hL.md.1, r_hasWord (d := d) (e := 0) hL hR hw (fun f t h' a b c1 c2 => ?_) (fun nf h' a b c1 c2 => ?_)⟩)
  · rw [if_neg (show ¬ (1 : Int32) = 0 by decide)]
    rw [if_pos f, if_pos t, if_pos rfl] at k
    exact ⟨rfl, k h' (a.p c1 c2) b⟩
  · rw [if_pos rfl]
    have hL' := a.1.la hL
    refine ⟨hL'.md.1, rp_wrong (d := d + 1) (kd := 1) hL' b (by decide) (by decide) (fun h2 a2 b2 => ⟨rfl, k h2 ((a.p c1 c2).trans a2) ?_⟩)⟩
    unfold stp at b2
    by_cases f : s.1 = 0
    · rw [if_pos f] at b2 ⊢
      rw [if_neg (show ¬ tW (rwd w) (hdT s.2) = true from fun q => nf ⟨f, q⟩)]
      exact b2
    · rw [if_neg f] at b2 ⊢; exact b2
theorem wh_kind (f : s.1 = 0) : wh s 11 4 = kdT (hdT s.2) := by
  have e : wh s 11 4 = if (decide (s.1 = 0) && tW (rwd 14) (hdT s.2)) = true then some 3 else if (decide (s.1 = 0) && tW (rwd 13) (hdT s.2)) = true then some 2 else if (decide (s.1 = 0) && tW (rwd 12) (hdT s.2)) = true then some 1 else if (decide (s.1 = 0) && tW (rwd 11) (hdT s.2)) = true then some 0 else none := rfl
  rw [e, decide_eq_true f, Bool.true_and, Bool.true_and, Bool.true_and, Bool.true_and, show rwd 14 = 15 from rfl, show rwd 13 = 14 from rfl, show rwd 12 = 13 from rfl, show rwd 11 = 12 from rfl, tW_w (by decide), tW_w (by decide), tW_w (by decide), tW_w (by decide)]
  simp only [decide_eq_true_iff]
  unfold kdT
  by_cases a : wcl (hdT s.2) = 12
  · rw [a]; rfl
  · by_cases b : wcl (hdT s.2) = 13
    · rw [b]; rfl
    · by_cases c : wcl (hdT s.2) = 14
      · rw [c]; rfl
      · rw [if_neg a, if_neg b, if_neg c, if_neg c, if_neg b, if_neg a]
theorem r_takeKind {Q : Int32 → pm_H → Prop} (hL : La h) (hR : RS h L s) (k : ∀ h' r, FrP h h' → RS h' L (cKind s) → ((cKind s).1 = 0 → r = oI (kdT (hdT s.2))) → Q r h') : ci G (d + 3) m_X12_takeOne [.ref 446, .int 11, .int 4] h Q := by
  unfold cKind at k
  refine ci_wp rfl (Nat.le_of_ble_eq_true rfl) rfl (x_X12_takeOne ⟨hL.md.1, ?_⟩)
  have le0 := hR.le0
  by_cases f : s.1 = 0
  · rw [if_pos (le0.mpr f)]
    refine r_wordHere (d := d) (f := 11) (many := 4) hL hR (by decide) ⟨hL.md.1, ?_⟩
    rw [wh_kind f, if_pos ((hR.at.choose_spec.2.2.2.2.2).mpr f)]
    have op := oI_pos (o := kdT (hdT s.2)) (n := 0) (fun x hx => by
      obtain ⟨k', e, lt⟩ := kind_0 (t := hdT s.2) (by rw [hx]; rfl)
      rw [e] at hx; cases hx; omega)
    by_cases c : 0 ≤ oI (kdT (hdT s.2))
    · rw [if_pos c]
      have nn : ¬ kdT (hdT s.2) = none := fun q => by have := op.mp c; rw [q] at this; cases this
      rw [if_neg nn] at k
      have so : (hdT s.2).2.1 ≠ 0 := by
        intro q
        have : wcl (hdT s.2) = 0 := if_neg (by omega)
        unfold kdT at nn
        rw [this] at nn
        exact nn rfl
      obtain ⟨a, b⟩ := hR.go f so
      refine x_X12_takeOne_34 ⟨hL.md.1, ?_⟩
      rw [if_pos (le0.mpr f)]
      rintro _ rfl
      rw [if_pos (b.le0.mpr rfl)]
      refine ⟨_, rfl, k _ _ a ?_ (fun _ => rfl)⟩
      unfold stp
      rw [if_pos f, if_pos rfl]; exact b
    · rw [if_neg c]
      have nn : kdT (hdT s.2) = none := by
        cases z : kdT (hdT s.2) with
        | none => rfl
        | some y => exact absurd (op.mpr (by rw [z]; rfl)) c
      rw [if_pos nn] at k
      refine rp_wrong (d := d + 1) (kd := 1) hL hR (by decide) (by decide) (fun h' a b => ?_)
      have n1 : ¬ (stp 1 s).1 = 0 := by unfold stp; rw [if_pos f, if_neg (by decide)]; exact (show ¬ (1 : Nat) = 0 by decide)
      obtain ⟨a2, b2⟩ := b.stay
      refine x_X12_takeOne_34 ⟨(a.la hL).md.1, ?_⟩
      rw [if_neg (fun q => n1 (b.le0.mp q))]
      rintro _ rfl
      rw [if_neg (fun q => n1 (b2.le0.mp q))]
      exact ⟨_, rfl, k _ _ (a.trans a2) b2 (fun q => absurd q n1)⟩
  · rw [if_neg (fun q => f (le0.mp q)), if_neg (fun q => f ((hR.at.choose_spec.2.2.2.2.2).mp q))]
    obtain ⟨a2, b2⟩ := hR.stay
    refine x_X12_takeOne_34 ⟨hL.md.1, ?_⟩
    rw [if_neg (fun q => f (le0.mp q))]
    rintro _ rfl
    rw [if_neg (fun q => f (b2.le0.mp q))]
    have e : stp (if kdT (hdT s.2) = none then 1 else 0) s = s := by unfold stp; rw [if_neg f]
    rw [e] at k
    exact ⟨_, rfl, k _ _ a2 b2 (fun q => absurd q f)⟩
theorem lg_neg {a b : Nat} (ha : a < 2 ^ 63) (hb : b < 2 ^ 63) : (lg_cmp (lN a) (lN b) < 0 ↔ a < b) ∧ (lg_cmp (lN a) (lN b) ≤ 0 ↔ a ≤ b) := by
  obtain ⟨h1, h2⟩ := lcmp_e ha hb
  rw [i_eq] at h1
  rw [i_lt] at h2
  rw [i_lt, i_le]
  have z : (0 : Int32).toInt = 0 := rfl
  rw [z] at h1 h2 ⊢
  constructor
  · constructor
    · intro q
      by_cases c : a = b
      · have := h1.mpr c; omega
      · by_cases c2 : b < a
        · have := h2.mpr c2; omega
        · omega
    · intro q
      have n1 : ¬ (lg_cmp (lN a) (lN b)).toInt = 0 := fun y => by have := h1.mp y; omega
      have n2 : ¬ 0 < (lg_cmp (lN a) (lN b)).toInt := fun y => by have := h2.mp y; omega
      omega
  · constructor
    · intro q
      have n2 : ¬ b < a := fun y => by have := h2.mpr y; omega
      omega
    · intro q
      have n2 : ¬ 0 < (lg_cmp (lN a) (lN b)).toInt := fun y => by have := h2.mp y; omega
      omega
theorem r_takeNumber {lo hi : Nat} {Q : Int32 → pm_H → Prop} (hL : La h) (hR : RS h L s) (hlo : lo < 10000) (hhi : hi < 10000) (k : ∀ h' r, FrP h h' → RS h' L (nNum lo hi s) → ((nNum lo hi s).1 = 0 → r = nI (nmv (hdT s.2).2.2)) → Q r h') : ci G (d + 2) m_X12_takeNumber [.ref 446, .int (nI lo), .int (nI hi)] h Q := by
  unfold nNum at k
  obtain ⟨i, i1, i2, i3, ⟨t1, t2, t3, t4, t5⟩, tk, i4⟩ := hR.at
  obtain ⟨p1, p4, p5, p6, q7, q8, q9, q0⟩ := hL.tok
  have so := tk.2.2.2.2
  -- behind a fault
  have bad : ∀ h', FrP h h' → RS h' L (stp (numK lo hi (hdT s.2)) s) → ¬ (stp (numK lo hi (hdT s.2)) s).1 = 0 → Wp G (m_X12_takeNumber, d + 2, 0, 0, fun v h1 => ∃ r, v = some (.int r) ∧ Q r h1) (0, 0) 70 [.ref 446, .null, .null] [] h' := by
    intro h' a b c
    refine x_X12_takeNumber_70 ⟨(a.la hL).md.1, ?_⟩
    rw [if_neg (fun q => c (b.le0.mp q))]
    exact ⟨_, rfl, k h' _ a b (fun q => absurd q c)⟩
  have wr : ∀ kd, s.1 = 0 → numK lo hi (hdT s.2) = kd → 0 < kd → kd ≤ 5 → cv G (d + 1) m_X12_wrong [.ref 446, .int (nI kd)] h (fun h3 => Wp G (m_X12_takeNumber, d + 1 + 1, 0, 0, fun v h1 => ∃ r, v = some (.int r) ∧ Q r h1) (0, 0) 70 [.ref 446, .null, .null] [] h3) := by
    intro kd f e k0 k5
    refine rp_wrong (d := d) (kd := kd) hL hR k5 k0 (fun h' a b => bad h' a (by rw [e]; exact b) ?_)
    rw [e]
    unfold stp
    rw [if_pos f, if_neg (by omega)]
    show ¬ kd = 0
    omega
  refine ci_wp rfl (Nat.le_of_ble_eq_true rfl) rfl (x_X12_takeNumber ⟨hL.md.1, ?_⟩)
  by_cases f : s.1 = 0
  · rw [if_pos (i4.mpr f), p4]
    refine ⟨1002, q8, by rw [i2]; exact vp_nI (by omega) (by decide), ?_⟩
    rw [i2, cl_nI (show i < 2 ^ 31 by omega), t1]
    by_cases e2 : (hdT s.2).2.1 = 2
    · have tn : tN (hdT s.2) = true := decide_eq_true e2
      have nm := tk.2.1 e2
      rw [if_pos (show nI (hdT s.2).2.1 = 2 by rw [e2]; rfl)]
      refine x_X12_takeNumber_28 ⟨hL.md.1, ?_⟩
      rw [if_pos (i4.mpr f), p6]
      refine ⟨1002, q0, by rw [i2]; exact vp_nI (by omega) (by decide), ?_⟩
      rw [i2, cl_nI (show i < 2 ^ 31 by omega), t4 e2, nI_l (show lo < 2 ^ 31 by omega), nI_l (show hi < 2 ^ 31 by omega)]
      have g1 := (lg_neg (a := nmv (hdT s.2).2.2) (b := lo) (by omega) (by omega)).1
      have g2 := (lg_neg (a := nmv (hdT s.2).2.2) (b := hi) (by omega) (by omega)).2
      by_cases c1 : nmv (hdT s.2).2.2 < lo
      · rw [if_pos (g1.mpr c1)]
        exact wr 4 f (by unfold numK; rw [if_neg (by rw [tn]; decide), if_pos (Or.inl c1)]) (by decide) (by decide)
      · rw [if_neg (fun q => c1 (g1.mp q))]
        by_cases c2 : nmv (hdT s.2).2.2 ≤ hi
        · rw [if_pos (g2.mpr c2)]
          have e : numK lo hi (hdT s.2) = 0 := by unfold numK; rw [if_neg (by rw [tn]; decide), if_neg (by omega)]
          rw [e] at k
          obtain ⟨a, b⟩ := hR.go f (by rw [e2]; decide)
          refine x_X12_takeNumber_70 ⟨hL.md.1, ?_⟩
          rw [if_pos (hR.le0.mpr f)]
          rintro _ rfl
          have e7 : gi (si h 446 7 (gi h 446 7 + 1)) 446 7 = nI (i + 1) := by
            show gi h 446 7 + 1 = _
            rw [i2, nI_1]
          rw [e7, show gp (si h 446 7 (gi h 446 7 + 1)) 446 6 = 450 from p6, show (1 : Int32) = nI 1 from rfl, pk_sub (by omega), Nat.add_sub_cancel]
          refine ⟨1002, q0, vp_nI (by omega) (by decide), ?_⟩
          rw [cl_nI (show i < 2 ^ 31 by omega)]
          refine ⟨_, rfl, ?_⟩
          rw [show (nI 1 : Int32) = 1 from rfl]
          refine k _ _ a ?_ (fun _ => ?_)
          · unfold stp
            rw [if_pos f, if_pos rfl]; exact b
          · show (gj h 450 i).toInt32 = _
            rw [t4 e2, lN_to32 (by omega)]
        · rw [if_neg (fun q => c2 (g2.mp q))]
          exact wr 4 f (by unfold numK; rw [if_neg (by rw [tn]; decide), if_pos (by omega)]) (by decide) (by decide)
    · have tn : tN (hdT s.2) = false := decide_eq_false e2
      rw [if_neg (show ¬ nI (hdT s.2).2.1 = 2 from fun q => e2 ((nI_inj (b := 2) (show (hdT s.2).2.1 < 2 ^ 31 by omega) (by decide)).mp q))]
      exact wr 1 f (by unfold numK; rw [if_pos tn]) (by decide) (by decide)
  · rw [if_neg (fun q => f (i4.mp q))]
    refine x_X12_takeNumber_28 ⟨hL.md.1, ?_⟩
    rw [if_neg (fun q => f (i4.mp q))]
    have e : stp (numK lo hi (hdT s.2)) s = s := by unfold stp; rw [if_neg f]
    exact bad h FrP.rfl' (by rw [e]; exact hR) (by rw [e]; exact f)
theorem r_takeTold {b : Nat} {ns : List (List Nat)} {but : Option Nat} {Q : Int32 → pm_H → Prop} (hL : La h) (hR : RS h L s) (hN : NmR h b ns) (hO : NmO ns) (hd : NdN ns) (hb : b + ns.length ≤ 50) (hbt : ∀ x, but = some x → x < 1000) (k : ∀ h' r, FrP h h' → RS h' L (oOld ns but s) → ((oOld ns but s).1 = 0 → r = oI (idN ns (hdT s.2))) → Q r h') : ci G (d + 4) m_X12_takeTold [.ref 446, .int (nI b), .int (nI ns.length), .int (oI but)] h Q := by
  unfold oOld at k
  have le0 := hR.le0
  have i4 := hR.at.choose_spec.2.2.2.2.2
  have bad : ∀ h' (v : Int32), FrP h h' → RS h' L (stp (oldK ns but (hdT s.2)) s) → ¬ (stp (oldK ns but (hdT s.2)) s).1 = 0 → Wp G (m_X12_takeTold, d + 4, 0, 0, fun v h1 => ∃ r, v = some (.int r) ∧ Q r h1) (0, 0) 76 [.ref 446, .null, .null, .null, .int v] [] h' := by
    intro h' v a b c
    obtain ⟨a2, b2⟩ := b.stay
    refine x_X12_takeTold_76 ⟨(a.la hL).md.1, ?_⟩
    rw [if_neg (fun q => c (b.le0.mp q))]
    rintro _ rfl
    rw [if_neg (fun q => c (b2.le0.mp q))]
    exact ⟨_, rfl, k _ _ (a.trans a2) b2 (fun q => absurd q c)⟩
  -- at 19 with a fault
  have bad19 : ∀ h', FrP h h' → RS h' L (stp (oldK ns but (hdT s.2)) s) → ¬ (stp (oldK ns but (hdT s.2)) s).1 = 0 → Wp G (m_X12_takeTold, d + 4, 0, 0, fun v h1 => ∃ r, v = some (.int r) ∧ Q r h1) (0, 0) 19 [.ref 446, .int (nI b), .int (nI ns.length), .int (oI but), .null] [] h' := by
    intro h' a b c
    have i4' := b.at.choose_spec.2.2.2.2.2
    refine x_X12_takeTold_19 ⟨(a.la hL).md.1, ?_⟩
    rw [if_neg (fun q => c (b.le0.mp q)), if_neg (fun q => c (i4'.mp q)), if_neg (fun q => c (i4'.mp q))]
    exact bad h' (-1) a b c
  refine ci_wp rfl (Nat.le_of_ble_eq_true rfl) rfl (x_X12_takeTold ⟨hL.md.1, ?_⟩)
  by_cases f : s.1 = 0
  · rw [if_pos (i4.mpr f)]
    refine r_isName (d := d) hL hR ?_
    rw [decide_eq_true f, Bool.true_and]
    by_cases nt : nameT (hdT s.2) = true
    · have s1 := nameT_sort nt
      rw [nt, if_neg (show ¬ b2i true = 0 by decide)]
      refine x_X12_takeTold_19 ⟨hL.md.1, ?_⟩
      rw [if_pos (le0.mpr f)]
      refine r_nameAt (d := d + 2) hL hR s1 hN hO hd hb ⟨hL.md.1, ?_⟩
      rw [if_pos (i4.mpr f), if_pos (i4.mpr f)]
      have lt : ∀ x, idN ns (hdT s.2) = some x → x < 2 ^ 31 := fun x hx => by have := idN_lt hx; omega
      have op := oI_pos (o := idN ns (hdT s.2)) (n := 0) lt
      cases hi : idN ns (hdT s.2) with
      | none =>
        rw [if_neg (show ¬ (0 : Int32) ≤ oI none by decide)]
        have e : oldK ns but (hdT s.2) = 2 := by unfold oldK; rw [if_neg (by rw [nt]; decide), if_pos hi]
        refine rp_wrong (d := d + 2) (kd := 2) hL hR (by decide) (by decide) (fun h' a b' => bad h' _ a (by rw [e]; exact b') ?_)
        rw [e]; unfold stp; rw [if_pos f, if_neg (by decide)]; exact (show ¬ (2 : Nat) = 0 by decide)
      | some x =>
        rw [hi] at op
        rw [if_pos (op.mpr rfl)]
        by_cases y : idN ns (hdT s.2) = but
        · rw [← y, hi, if_pos rfl]
          have e : oldK ns but (hdT s.2) = 3 := by unfold oldK; rw [if_neg (by rw [nt]; decide), if_neg (by rw [hi]; intro q; cases q), if_pos y]
          refine rp_wrong (d := d + 2) (kd := 3) hL hR (by decide) (by decide) (fun h' a b' => bad h' _ a (by rw [e]; exact b') ?_)
          rw [e]; unfold stp; rw [if_pos f, if_neg (by decide)]; exact (show ¬ (3 : Nat) = 0 by decide)
        · rw [if_neg (fun q => y (by
            rw [hi]
            have lx := lt x hi
            cases hb2 : but with
            | none => rw [hb2] at q; exact absurd q (nI_nm1 lx)
            | some u =>
              have lu := hbt u hb2
              rw [hb2] at q
              rw [(nI_inj lx (show u < 2 ^ 31 by omega)).mp q]))]
          have e : oldK ns but (hdT s.2) = 0 := by unfold oldK; rw [if_neg (by rw [nt]; decide), if_neg (by rw [hi]; intro q; cases q), if_neg y]
          rw [e] at k
          obtain ⟨a, b'⟩ := hR.go f (by rw [s1]; decide)
          refine x_X12_takeTold_76 ⟨hL.md.1, ?_⟩
          rw [if_pos (le0.mpr f)]
          rintro _ rfl
          rw [if_pos (b'.le0.mpr rfl)]
          refine ⟨_, rfl, k _ _ a ?_ (fun _ => by rw [hi])⟩
          unfold stp
          rw [if_pos f, if_pos rfl]; exact b'
    · have nt : nameT (hdT s.2) = false := by simpa using nt
      rw [nt, if_pos (show b2i false = 0 from rfl)]
      have e : oldK ns but (hdT s.2) = 1 := by unfold oldK; rw [if_pos nt]
      refine ⟨hL.md.1, rp_wrong (d := d + 2) (kd := 1) hL hR (by decide) (by decide) (fun h' a b' => bad19 h' a (by rw [e]; exact b') ?_)⟩
      rw [e]; unfold stp; rw [if_pos f, if_neg (by decide)]; exact (show ¬ (1 : Nat) = 0 by decide)
  · rw [if_neg (fun q => f (i4.mp q))]
    have e : stp (oldK ns but (hdT s.2)) s = s := by unfold stp; rw [if_neg f]
    exact bad19 h FrP.rfl' (by rw [e]; exact hR) (by rw [e]; exact f)
end RRD
