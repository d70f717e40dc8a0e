/-! THE REFERENCE reads a PART of an E -/
def wh (s : PS) (f many : Nat) : Option Nat := lst (fun k => decide (s.1 = 0) && tW (rwd (f + k)) (hdT s.2)) many
section RPA
variable {G : pm_G} {d : Nat} {L : List Tk}
theorem r_wordHere {h : pm_H} {s : PS} {f many : Nat} {Q : Int32 → pm_H → Prop} (hL : La h) (hR : RS h L s) (hm : f + many ≤ 22) (k : Q (oI (wh s f many)) h) : ci G (d + 2) m_X12_wordHere [.ref 446, .int (nI f), .int (nI many)] h Q := by
  refine ci_wp rfl (Nat.le_of_ble_eq_true rfl) rfl (x_X12_wordHere ?_)
  have key := up_to (P := fun n => Wp G (m_X12_wordHere, d + 2, 0, 0, fun v h1 => ∃ r, v = some (.int r) ∧ Q r h1) (0, 0) 5 [.ref 446, .int (nI f), .int (nI many), .int (oI (wh s f n)), .int (nI n)] [] h) many (fun n hn ih => ?_) ?_
  · exact key
  · refine x_X12_wordHere_5 ?_
    rw [if_neg (show ¬ nI many ≤ nI n from nI_nlen hn (by omega)), nI_add]
    refine ⟨hL.md.1, r_isWord (d := d) (w := f + n) hL hR (by omega) ?_⟩
    have e : wh s f (n + 1) = if (decide (s.1 = 0) && tW (rwd (f + n)) (hdT s.2)) = true then some n else wh s f n := rfl
    rw [e] at ih
    rw [nI_1]
    by_cases c : (decide (s.1 = 0) && tW (rwd (f + n)) (hdT s.2)) = true
    · rw [c, if_neg (show ¬ b2i true = 0 by decide)]
      rw [if_pos c] at ih
      exact ih
    · rw [show (decide (s.1 = 0) && tW (rwd (f + n)) (hdT s.2)) = false by simpa using c, if_pos (show b2i false = 0 from rfl)]
      rw [if_neg c] at ih
      exact ih
  · refine x_X12_wordHere_5 ?_
    rw [if_pos (Int32.le_refl _)]
    exact ⟨_, rfl, k⟩
theorem wh_fact {s : PS} (h : s.1 = 0) : wh s 18 4 = fcT (hdT s.2) := by
  have e : wh s 18 4 = if (decide (s.1 = 0) && tW (rwd 21) (hdT s.2)) = true then some 3 else if (decide (s.1 = 0) && tW (rwd 20) (hdT s.2)) = true then some 2 else if (decide (s.1 = 0) && tW (rwd 19) (hdT s.2)) = true then some 1 else if (decide (s.1 = 0) && tW (rwd 18) (hdT s.2)) = true then some 0 else none := rfl
  rw [e, decide_eq_true h, Bool.true_and, Bool.true_and, Bool.true_and, Bool.true_and, show rwd 21 = 21 from rfl, show rwd 20 = 6 from rfl, show rwd 19 = 20 from rfl, show rwd 18 = 19 from rfl]
  unfold fcT
  by_cases a : tW 19 (hdT s.2) = true
  · rw [tW_ne (w' := 21) a (by decide), tW_ne (w' := 6) a (by decide), tW_ne (w' := 20) a (by decide), a]; rfl
  · by_cases b : tW 20 (hdT s.2) = true
    · rw [tW_ne (w' := 21) b (by decide), tW_ne (w' := 6) b (by decide), tW_ne (w' := 19) b (by decide), b]; rfl
    · by_cases c : tW 6 (hdT s.2) = true
      · rw [tW_ne (w' := 21) c (by decide), tW_ne (w' := 20) c (by decide), tW_ne (w' := 19) c (by decide), c]; rfl
      · rw [if_neg a, if_neg b, if_neg c, if_neg c, if_neg b, if_neg a]
theorem oI_pos {o : Option Nat} {n : Nat} (h : ∀ x, o = some x → x < 2 ^ 31) : (0 ≤ oI o ↔ o.isSome = true) := by
  cases o with
  | none => exact ⟨fun q => absurd q (by decide), fun q => by cases q⟩
  | some x => exact ⟨fun _ => rfl, fun _ => by
      show (0 : Int32) ≤ nI x
      rw [i_le, nI_toInt (h x rfl)]
      exact Int.natCast_nonneg x⟩
theorem fcT_lt {t : Tk} {j : Nat} (h : fcT t = some j) : j < 4 := by
  rw [fcT_n] at h
  unfold fcN at h
  split at h
  · cases h; decide
  · split at h
    · cases h; decide
    · split at h
      · cases h; decide
      · split at h
        · cases h; decide
        · cases h
theorem lN_to32 {n : Nat} (h : n < 2 ^ 31) : (lN n).toInt32 = nI n := by
  rw [← nI_l h]
  simp
theorem RS.le0 {h : pm_H} {s : PS} (hR : RS h L s) : (gi h 446 8 ≤ 0 ↔ s.1 = 0) := by
  obtain ⟨i, i1, i2, i3, -, tk, i4⟩ := hR.at
  have h5 := hR.2.2.2.2.1
  have hp := tk.2.2.2.1
  have lt : flv s < 2 ^ 31 := by unfold flv; split <;> omega
  constructor
  · intro q
    rw [i3] at q
    have := (nI_leI (b := 0) lt (by decide)).mp q
    unfold flv at this
    by_cases f : s.1 = 0
    · exact f
    · rw [if_neg f] at this; omega
  · intro q
    rw [i4.mpr q]; exact Int32.le_refl _
theorem r_part0 {h : pm_H} {s : PS} {D c : Nat} {Q : pm_H → Prop} (hD : D ≤ 5) (hL : La h) (hR : RS h L s)
    (k0 : s.1 ≠ 0 → Q h)
    (kf : ∀ kd, s.1 = 0 → (kd = 1 ∧ stT (hdT s.2) = false ∨ kd = 5 ∧ stT (hdT s.2) = true ∧ D = 0) → ∀ h', FrE c h h' → RS h' L (kd, s.2) → gi h' 446 12 = gi h 446 12 → gi h' 453 = gi h 453 → Q h')
    (k79 : s.1 = 0 → stT (hdT s.2) = true → D ≠ 0 → Wp G (m_X12_takePart, d + 3, 0, 0, fun v h1 => v = none ∧ Q h1) (0, 0) 79 [.ref 446, .int (nI (5 - D)), .int (b2i (tN (hdT s.2))), .int (oI (fcT (hdT s.2)))] [] h) : cv G (d + 3) m_X12_takePart [.ref 446, .int (nI (5 - D))] h Q := by
  obtain ⟨i, i1, i2, i3, ⟨t1, t2, t3, t4, t5⟩, tk, i4⟩ := hR.at
  obtain ⟨p1, p4, p5, p6, q7, q8, q9, q0⟩ := hL.tok
  refine cv_wp rfl (Nat.le_of_ble_eq_true rfl) rfl (x_X12_takePart ⟨hL.md.1, ?_⟩)
  by_cases f : s.1 = 0
  · rw [if_pos (hR.le0.mpr f), p4]
    refine ⟨1002, q8, by rw [i2]; exact vp_nI (by omega) (by decide), ?_⟩
    rw [i2, cl_nI (show i < 2 ^ 31 by omega), t1]
    have so := tk.2.2.2.2
    have d5 : (nI (5 - D) = (5 : Int32)) ↔ D = 0 := by
      have := nI_inj (a := 5 - D) (b := 5) (by omega) (by decide)
      exact this.trans (by omega)
    have wf : ∀ (kd : Nat) (l2 l3 : Int32), (kd = 1 ∧ stT (hdT s.2) = false ∨ kd = 5 ∧ stT (hdT s.2) = true ∧ D = 0) → (h.1[446]? = some (0, 11)) ∧ cv G (d + 2) m_X12_wrong [.ref 446, .int (nI kd)] h (fun h5 => Wp G (m_X12_takePart, d + 2 + 1, 0, 0, fun v h1 => v = none ∧ Q h1) (0, 0) 79 [.ref 446, .int (nI (5 - D)), .int l2, .int l3] [] h5) := by
      intro kd l2 l3 hk
      refine ⟨hL.md.1, r_wrong (d := d + 1) (c := c) (kd := kd) hL hR (by omega) (by omega) (fun h' a b c1 c2 => ?_)⟩
      unfold wrg at b
      rw [if_pos f] at b
      refine x_X12_takePart_79 ⟨(a.1.la hL).md.1, ?_⟩
      rw [if_neg (fun q => by have : kd = 0 := b.le0.mp q; omega)]
      exact ⟨rfl, kf kd f hk h' a b c1 c2⟩
    have fact : ∀ (l2 : Int32) (P : Int32 → pm_H → Prop), P (oI (fcT (hdT s.2))) h → ci G (d + 2) m_X12_wordHere [.ref 446, .int 18, .int 4] h P := by
      intro l2 P hp
      refine r_wordHere (d := d) (f := 18) (many := 4) hL hR (by decide) ?_
      rw [wh_fact f]; exact hp
    have op := oI_pos (o := fcT (hdT s.2)) (n := 0) (fun x hx => by have := fcT_lt hx; omega)
    by_cases e2 : (hdT s.2).2.1 = 2
    · have tn : tN (hdT s.2) = true := decide_eq_true e2
      have hs : stT (hdT s.2) = true := by unfold stT; rw [tn]; simp
      rw [if_pos (show nI (hdT s.2).2.1 = 2 by rw [e2]; rfl)]
      refine fact 1 _ ?_
      rw [tn] at k79
      have nf : ¬ 0 ≤ oI (fcT (hdT s.2)) := by
        intro q
        have q := op.mp q
        have w0 : wcl (hdT s.2) = 0 := if_neg (by omega)
        rw [fcT_n, w0] at q
        cases q
      rw [if_neg nf]
      by_cases d0 : D = 0
      · rw [if_pos (d5.mpr d0)]
        exact wf 5 _ _ (Or.inr ⟨rfl, hs, d0⟩)
      · rw [if_neg (fun q => d0 (d5.mp q))]
        exact k79 f hs d0
    · have tn : tN (hdT s.2) = false := decide_eq_false e2
      rw [tn] at k79
      rw [if_neg (show ¬ nI (hdT s.2).2.1 = 2 from fun q => e2 ((nI_inj (b := 2) (show (hdT s.2).2.1 < 2 ^ 31 by omega) (by decide)).mp q))]
      refine fact 0 _ ?_
      by_cases cf : 0 ≤ oI (fcT (hdT s.2))
      · rw [if_pos cf]
        have hs : stT (hdT s.2) = true := by unfold stT; rw [op.mp cf]; simp
        by_cases d0 : D = 0
        · rw [if_pos (d5.mpr d0)]
          exact wf 5 _ _ (Or.inr ⟨rfl, hs, d0⟩)
        · rw [if_neg (fun q => d0 (d5.mp q))]
          exact k79 f hs d0
      · rw [if_neg cf]
        have ns : (fcT (hdT s.2)).isSome = false := by
          cases z : (fcT (hdT s.2)).isSome with
          | false => rfl
          | true => exact absurd (op.mpr z) cf
        refine ⟨hL.md.1, r_isSign (d := d + 1) (c := 40) hL hR (by decide) ?_⟩
        rw [decide_eq_true f, Bool.true_and]
        by_cases c40 : tS 40 (hdT s.2) = true
        · have hs : stT (hdT s.2) = true := by unfold stT; rw [c40]; rfl
          rw [c40, if_neg (show ¬ b2i true = 0 by decide)]
          by_cases d0 : D = 0
          · rw [if_pos (d5.mpr d0)]
            exact wf 5 _ _ (Or.inr ⟨rfl, hs, d0⟩)
          · rw [if_neg (fun q => d0 (d5.mp q))]
            exact k79 f hs d0
        · have c40 : tS 40 (hdT s.2) = false := by simpa using c40
          rw [c40, if_pos (show b2i false = 0 from rfl)]
          refine ⟨hL.md.1, r_isWord (d := d + 1) (w := 15) hL hR (by decide) ?_⟩
          rw [decide_eq_true f, Bool.true_and, show rwd 15 = 16 from rfl]
          by_cases c16 : tW 16 (hdT s.2) = true
          · have hs : stT (hdT s.2) = true := by unfold stT; rw [c16]; simp
            rw [c16, if_neg (show ¬ b2i true = 0 by decide)]
            by_cases d0 : D = 0
            · rw [if_pos (d5.mpr d0)]
              exact wf 5 _ _ (Or.inr ⟨rfl, hs, d0⟩)
            · rw [if_neg (fun q => d0 (d5.mp q))]
              exact k79 f hs d0
          · have c16 : tW 16 (hdT s.2) = false := by simpa using c16
            have hs : stT (hdT s.2) = false := by unfold stT; rw [c40, c16, tn, ns]; rfl
            rw [c16, if_pos (show b2i false = 0 from rfl)]
            exact wf 1 _ _ (Or.inl ⟨rfl, hs⟩)
  · rw [if_neg (fun q => f (hR.le0.mp q))]
    exact ⟨rfl, k0 f⟩
theorem RS.same {h h' : pm_H} {s : PS} {c : Nat} (hR : RS h L s) (f : FrE c h h') (e7 : gi h' 446 7 = gi h 446 7) (e8 : gi h' 446 8 = gi h 446 8) : RS h' L s := hR.keep f.1 e7 e8
theorem r_takePart : ∀ (D : Nat), D ≤ 5 → ∀ d : Nat, PtR G (d + 3 + 5 * D) m_X12_takePart (nI (5 - D)) L (prt D)
  | 0, hD, d => by
    intro h s c Q hL hR hc hb k
    refine r_part0 (d := d) (c := 1100 + c) (D := 0) (by decide) hL hR (fun f => ?_) (fun kd f hk h' a b c1 c2 => ?_) (fun f hs d0 => absurd rfl d0)
    · rw [prt, if_pos f] at k
      exact k h FrE.rfl' hR hc trivial
    · rw [prt, if_neg (fun q => q f)] at k
      refine k h' a ?_ (c1.trans hc) trivial
      have e : (if stT (hdT s.2) = true then 5 else 1) = kd := by
        rcases hk with ⟨e, z⟩ | ⟨e, z, -⟩
        · rw [if_neg (by rw [z]; decide), e]
        · rw [if_pos z, e]
      rw [e]; exact b
  | D + 1, hD, d => by
    intro h s c Q hL hR hc hb k
    have ih := r_takePart D (by omega)
    rw [show d + 3 + 5 * (D + 1) = (d + 5 + 5 * D) + 3 by omega]
    refine r_part0 (d := d + 5 + 5 * D) (c := 1100 + c) (D := D + 1) hD hL hR (fun f => ?_) (fun kd f hk h' a b c1 c2 => ?_) (fun f hs d0 => ?_)
    · rw [prt, if_pos f] at k
      exact k h FrE.rfl' hR hc trivial
    · rw [prt, if_neg (fun q => q f)] at k
      rcases hk with ⟨e, z⟩ | ⟨e, z, z0⟩
      · rw [if_pos z] at k
        subst e
        exact k h' a b (c1.trans hc) trivial
      · omega
    · rw [prt, if_neg (fun q => q f), if_neg (by rw [hs]; decide)] at k
      have dd : nI (5 - (D + 1)) + 1 = nI (5 - D) := by rw [nI_1]; congr 1; omega
      have tl : s.2.tail.length = s.2.length - 1 := List.length_tail
      have t0' := hR.2.2.2.1.at.2.2
      refine x_X12_takePart_79 ⟨hL.md.1, ?_⟩
      rw [if_pos (hR.le0.mpr f), dd]
      refine r_hasWord (d := d + 5 + 5 * D) (e := 1100 + c) (w := 15) hL hR (by decide) (fun _ t0 h2 f2 r2 c2 e2 => ?_) (fun nf h2 f2 r2 c2 e2 => ?_)
      · rw [show rwd 15 = 16 from rfl] at t0
        rw [if_pos t0] at k
        rw [if_neg (show ¬ (1 : Int32) = 0 by decide)]
        have hL2 := f2.1.la hL
        have tp := ih (d + 4)
        rw [show d + 4 + 3 + 5 * D = d + 5 + 5 * D + 2 by omega] at tp
        refine ⟨hL2.md.1, tp h2 (0, s.2.tail) c _ hL2 r2 (c2.trans hc) (by show c + s.2.tail.length ≤ 1090; omega) (fun h3 f3 r3 c3 e3 => ?_)⟩
        have hL3 := f3.1.la hL2
        have z := prt_sz D (0, s.2.tail)
        have z : (prt D (0, s.2.tail)).2.length + (prt D (0, s.2.tail)).1.2.length ≤ s.2.tail.length := z
        obtain ⟨g1, g2, g3, g4⟩ := r_joined (k := 3) (f2.trans f3 (Nat.le_refl _)) r3 c3 e3
        exact ⟨hL3.md.1, r_emit (d := d + 5 + 5 * D + 1) (o := 3) (a := 0) hL3 c3 (by omega) ⟨rfl, k _ g1 g2 g3 g4⟩⟩
      · rw [show rwd 15 = 16 from rfl] at nf
        rw [if_neg (fun q => nf ⟨f, q⟩)] at k
        rw [if_pos rfl]
        have hL2 := f2.1.la hL
        refine ⟨hL2.md.1, r_hasSign (d := d + 5 + 5 * D) (e := 1100 + c) (c := 40) hL2 r2 (by decide) (fun _ t0 h3 f3 r3 c3 e3 => ?_) (fun nf2 h3 f3 r3 c3 e3 => ?_)⟩
        · rw [if_pos t0] at k
          rw [if_neg (show ¬ (1 : Int32) = 0 by decide)]
          have hL3 := f3.1.la hL2
          have tp := ih d
          rw [show d + 3 + 5 * D = d + 5 * D + 1 + 2 by omega] at tp
          have s0 := prt_sm D
          have z0 := prt_sz D
          have m4 := r_products (d := d + 5 * D + 1) tp s0 z0
          have m3 := r_sums (d := d + 5 * D + 1) m4 (lvl_sm s0) (lvl_sz z0 (by decide))
          have m2 := r_test (d := d + 5 * D + 1) m3 (lvl_sm (lvl_sm s0)) (lvl_sz (lvl_sz z0 (by decide)) (by decide))
          have m1 := r_allOf (d := d + 5 * D + 1) m2 (lvl_sm (lvl_sm (lvl_sm s0))) (lvl_sz (lvl_sz (lvl_sz z0 (by decide)) (by decide)) (by decide))
          rw [show d + 5 * D + 1 + 6 = d + 5 + 5 * D + 2 by omega] at m1
          refine ⟨hL3.md.1, m1 h3 (0, s.2.tail) c _ hL3 r3 ((c3.trans c2).trans hc) (by show c + s.2.tail.length ≤ 1090; omega) (fun h4 f4 r4 c4 e4 => ?_)⟩
          have hL4 := f4.1.la hL3
          refine ⟨hL4.md.1, r_takeSign (d := d + 5 + 5 * D) (e := 1100 + c + (alo (prt D) (0, s.2.tail)).2.length) (c := 41) hL4 r4 (by decide) (fun h5 f5 r5 c5 e5 => ⟨rfl, ?_⟩)⟩
          refine k h5 (f2.trans (f3.trans (f4.trans f5 (by omega)) (Nat.le_refl _)) (Nat.le_refl _)) r5 (c5.trans c4) ?_
          rw [e5]; exact e4
        · rw [if_neg (fun q => nf2 ⟨f, q⟩)] at k
          rw [if_pos rfl]
          have hL3 := f3.1.la hL2
          have f03 : FrE (1100 + c) h h3 := f2.trans f3 (Nat.le_refl _)
          obtain ⟨i, i1, i2, i3, ⟨t1, t2, t3, t4, t5⟩, tk, i4⟩ := r3.at
          have c03 : gi h3 446 12 = nI c := (c3.trans c2).trans hc
          have e03 : gi h3 453 = gi h 453 := e3.trans e2
          have h0 : (hdT s.2).2.1 ≠ 0 := by
            intro q
            have : stT (hdT s.2) = false := by unfold stT tS tW tN fcT tW; rw [q]; rfl
            rw [this] at hs; cases hs
          -- one told, one further
          have fin : ∀ o a, paO (hdT s.2) = (o, a) → ∀ h6, h6 = si (si h3 453 (1100 + c) (nI (o + 16 * a))) 446 12 (nI (c + 1)) → (h6.1[446]? = some (0, 11)) ∧ ∀ h7 : pm_H, h7 = si h6 446 7 (gi h6 446 7 + 1) → ((none : Option Value) = none ∧ Q h7) := by
            rintro o a ep _ rfl
            refine ⟨hL3.md.1, ?_⟩
            rintro _ rfl
            obtain ⟨g1, g2, g3, g4⟩ := r_joined (o1 := []) (k := o + 16 * a) f03 r3 c03 trivial
            obtain ⟨fx, rx⟩ := g2.go1 (c := 1100 + c) f h0
            refine ⟨rfl, k _ ?_ ?_ rfl ⟨?_, trivial⟩⟩
            · exact g1.trans fx (Nat.le_refl _)
            · exact rx
            · rw [ep]
              show (if 1100 + c = 1100 + c then nI (o + 16 * a) else _) = _
              rw [if_pos rfl]
          by_cases tn : tN (hdT s.2) = true
          · have e2' : (hdT s.2).2.1 = 2 := of_decide_eq_true tn
            rw [tn, if_neg (show ¬ b2i true = 0 by decide), if_neg (show ¬ b2i true = 0 by decide)]
            refine ⟨hL3.md.1, 1002, by rw [hL3.tok.2.2.2.1]; exact hL3.tok.2.2.2.2.2.2.2, by rw [i2]; exact vp_nI (by omega) (by decide), ?_⟩
            have nm := tk.2.1 e2'
            rw [hL3.tok.2.2.2.1, i2, cl_nI (show i < 2 ^ 31 by omega), t4 e2', lN_to32 (by omega)]
            refine r_emit (d := d + 5 + 5 * D + 1) (o := 1) (a := nmv (hdT s.2).2.2) hL3 c03 (by omega) ?_
            exact fin 1 _ (if_pos tn) _ rfl
          · have tn' : tN (hdT s.2) = false := by simpa using tn
            rw [tn', if_pos (show b2i false = 0 from rfl), if_pos (show b2i false = 0 from rfl)]
            cases hfc : fcT (hdT s.2) with
            | none =>
              have : stT (hdT s.2) = false := by
                unfold stT
                rw [hfc, tn', show tS 40 (hdT s.2) = false by simpa using (fun q => nf2 ⟨f, q⟩ : ¬ tS 40 (hdT s.2) = true), show tW 16 (hdT s.2) = false by simpa using (fun q => nf ⟨f, q⟩ : ¬ tW 16 (hdT s.2) = true)]; rfl
              rw [this] at hs; cases hs
            | some j =>
              have hj := fcT_lt hfc
              refine ⟨hL3.md.1, r_emit (d := d + 5 + 5 * D + 1) (o := 2) (a := j) hL3 c03 (by omega) ?_⟩
              exact fin 2 j (by unfold paO; rw [if_neg tn, hfc]; rfl) _ rfl
/-- a whole E -/
theorem r_allOf0 (d : Nat) : PtR G (d + 32) m_X12_allOf 0 L (alo (prt 5)) := by
  have tp := r_takePart (G := G) (L := L) 5 (by decide) d
  have s0 := prt_sm 5
  have z0 := prt_sz 5
  rw [show d + 3 + 5 * 5 = d + 26 + 2 by omega] at tp
  have m4 := r_products (d := d + 26) tp s0 z0
  have m3 := r_sums (d := d + 26) m4 (lvl_sm s0) (lvl_sz z0 (by decide))
  have m2 := r_test (d := d + 26) m3 (lvl_sm (lvl_sm s0)) (lvl_sz (lvl_sz z0 (by decide)) (by decide))
  exact r_allOf (d := d + 26) m2 (lvl_sm (lvl_sm (lvl_sm s0))) (lvl_sz (lvl_sz (lvl_sz z0 (by decide)) (by decide)) (by decide))
end RPA
