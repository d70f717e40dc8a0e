/-! WORKS of one line; all that is well of a Forest -/
def okN (N : Nat) (A : AF) (w : Nat) : Prop := okA A w ∧ okS A ∧ (∀ t, N ≤ t → t < 20 → A.2.1 t = -1 ∧ A.2.2.1 t = -1) ∧ (∀ t, t < 20 → A.2.2.1 t = -1 ∨ ∃ s, s < 3 ∧ A.2.2.1 t = nI s) ∧ LBs N A.1
theorem okA.mono {A : AF} {w w' : Nat} (h : okA A w) (hw : w ≤ w') : okA A w' := by
  obtain ⟨⟨a1, a2, a3, a4, a5, a6, a7, a8⟩, a9, a10⟩ := h
  exact ⟨⟨a1, a2, a3, a4, a5, a6, a7, by omega⟩, a9, a10⟩
theorem okN.mono {N w w' : Nat} {A : AF} (h : okN N A w) (hw : w ≤ w') : okN N A w' := ⟨h.1.mono hw, h.2⟩
theorem okN_A0 {N : Nat} : okN N A0 0 := ⟨okA_A0, okS_A0, fun _ _ _ => ⟨rfl, rfl⟩, fun _ _ => Or.inl rfl, LBs_A0⟩
theorem okN_put {lt : Nat → Nat → Bool} {tvf : Int32 → Nat → Int32 → Int32} {N w t a : Nat} {A : AF} (h : okN N A w) (hN : N ≤ 20) (ht : t < N) (ha : a < 3) (hn : A.2.1 t = -1) (hw : w + 1 ≤ 1000) (hpos : ∀ al r g, 0 < tvf al r g) : okN N (putA lt tvf A t a) (w + 1) := by
  obtain ⟨h1, h2, h3, h4, h5⟩ := h
  refine ⟨okA_put h1 (by omega) ha hn hw hpos, okS_put h2, fun u hu hu2 => ⟨?_, ?_⟩, fun u hu => ?_, (putA_agr (lt := lt) (lt' := lt) (fun _ _ _ _ => rfl) ht ha h5).2⟩
  · show up1 A.2.1 t (nI a) u = -1
    rw [up1_ne _ _ (by omega)]; exact (h3 u hu hu2).1
  · show up1 A.2.2.1 t (-1) u = -1
    rw [up1_ne _ _ (by omega)]; exact (h3 u hu hu2).2
  · show up1 A.2.2.1 t (-1) u = -1 ∨ ∃ s, s < 3 ∧ up1 A.2.2.1 t (-1) u = nI s
    by_cases e : u = t
    · rw [e, up1_at]; exact Or.inl rfl
    · rw [up1_ne _ _ e]; exact h4 u hu
theorem okN_take {lt : Nat → Nat → Bool} {N w t a : Nat} {A A' : AF} (h : okN N A w) (ha : a < 3) (hw : w ≤ 1000) (e : takeA lt A a = some (t, A')) : okN N A' w ∧ t < N := by
  obtain ⟨h1, h2, h3, h4, h5⟩ := h
  obtain ⟨g1, g2, g3, g4, g5⟩ := okA_take h1 ha hw e
  refine ⟨⟨g1, okS_sp h2 g5, fun u hu hu2 => ⟨?_, ?_⟩, fun u hu => by rw [g5]; exact h4 u hu, (takeA_agr (lt := lt) (lt' := lt) (fun _ _ _ _ => rfl) ha h5).2 t A' e⟩, ?_⟩
  · rw [g4]
    unfold up1
    split
    · rfl
    · exact (h3 u hu hu2).1
  · rw [g5]; exact (h3 u hu hu2).2
  · refine Classical.byContradiction fun q => nI_nm1 (n := a) (by omega) ?_
    rw [← g3]; exact (h3 t (by omega) g2).1
theorem okN_meld {lt : Nat → Nat → Bool} {tvf : Int32 → Nat → Int32 → Int32} {N w a b : Nat} {A : AF} (h : okN N A w) (ha : a < 3) (hb : b < 3) (hab : a ≠ b) (hw : w ≤ 1000) (hpos : ∀ al r g, 0 < tvf al r g) : okN N (meldA lt tvf A a b) w := by
  obtain ⟨h1, h2, h3, h4, h5⟩ := h
  have hsp : (meldA lt tvf A a b).2.2 = A.2.2 := meldF_sp 24
  refine ⟨okA_meldF h1 ha hb hab hw hpos 24 (Nat.le_refl _), okS_sp h2 hsp, fun u hu hu2 => ⟨?_, ?_⟩, fun u hu => by rw [hsp]; exact h4 u hu, (meldA_agr (lt := lt) (lt' := lt) (fun _ _ _ _ => rfl) ha hb h5).2⟩
  · rw [meldA_hp h1 ha hb hab hw hpos u hu2, (h3 u hu hu2).1, if_neg (fun q => nI_nm1 (n := a) (by omega) q.symm)]
  · rw [hsp]; exact (h3 u hu hu2).2
theorem okN_shelve {lt : Nat → Nat → Bool} {kd skd : Nat → Int32} {N w a s : Nat} {A : AF} (h : okN N A w) (ha : a < 3) (hs : s < 2) (hw : w ≤ 1000) : okN N (shelveA lt kd skd A a s).2 w := by
  have hS := okS_shelve (lt := lt) (kd := kd) (skd := skd) h.2.1 h.1 ha hs hw
  have hA := okA_shelve (lt := lt) (kd := kd) (skd := skd) (s := s) h.1 ha hw
  have hL := (shelveA_agr (lt := lt) (lt' := lt) (kd := kd) (skd := skd) (s := s) (fun _ _ _ _ => rfl) ha h.2.2.2.2).2
  refine ⟨hA, hS, ?_, ?_, hL⟩
  · unfold shelveA
    cases e : takeA lt A a with
    | none => exact h.2.2.1
    | some p =>
      obtain ⟨t, A'⟩ := p
      obtain ⟨o1, o2⟩ := okN_take h ha hw e
      simp only
      split
      · exact o1.2.2.1
      · split
        · intro u hu hu2
          refine ⟨(o1.2.2.1 u hu hu2).1, ?_⟩
          show up1 A'.2.2.1 t (nI s) u = -1
          rw [up1_ne _ _ (by omega)]; exact (o1.2.2.1 u hu hu2).2
        · exact o1.2.2.1
  · unfold shelveA
    cases e : takeA lt A a with
    | none => exact h.2.2.2.1
    | some p =>
      obtain ⟨t, A'⟩ := p
      obtain ⟨o1, o2⟩ := okN_take h ha hw e
      simp only
      split
      · exact o1.2.2.2.1
      · split
        · intro u hu
          show up1 A'.2.2.1 t (nI s) u = -1 ∨ ∃ s', s' < 3 ∧ up1 A'.2.2.1 t (nI s) u = nI s'
          by_cases q : u = t
          · rw [q, up1_at]; exact Or.inr ⟨s, by omega, rfl⟩
          · rw [up1_ne _ _ q]; exact o1.2.2.2.1 u hu
        · exact o1.2.2.2.1
theorem okN_tell {lt : Nat → Nat → Bool} {tvf : Int32 → Nat → Int32 → Int32} {N : Nat} {hm : Nat → Nat} (hN : N ≤ 20) (hpos : ∀ al r g, 0 < tvf al r g) : ∀ n, n ≤ N → (∀ t, t < n → hm t < 3) → okN N (tellF lt tvf hm n) n
  | 0, _, _ => okN_A0
  | n + 1, hn, hh => by
    have o := okN_tell (lt := lt) (tvf := tvf) (hm := hm) hN hpos n (by omega) (fun t ht => hh t (by omega))
    exact okN_put o hN (by omega) (hh n (by omega)) ((tellF_ok (lt := lt) hpos n (by omega) (fun t ht => hh t (by omega))).2 n (Nat.le_refl _)) (by omega) hpos
def doA (lt : Nat → Nat → Bool) (tvf : Int32 → Nat → Int32 → Int32) (kd skd : Nat → Int32) (A : AF) (k x y : Nat) : Bool × AF :=
  if k = 0 then (if A.2.1 x = -1 then (true, putA lt tvf A x y) else (false, A))
  else if k = 1 then (match takeA lt A x with
    | none => (false, A)
    | some p => (true, p.2))
  else if k = 2 then (if x = y then (false, A) else (true, meldA lt tvf A x y))
  else (match takeA lt A x with
    | none => (false, A)
    | some _ => (true, (shelveA lt kd skd A x y).2))
def lnOK (N k x y : Nat) : Prop := k < 4 ∧ (k = 0 → x < N ∧ y < 3) ∧ (k = 1 → x < 3) ∧ (k = 2 → x < 3 ∧ y < 3) ∧ (k = 3 → x < 3 ∧ y < 2)
theorem okN_do {lt : Nat → Nat → Bool} {tvf : Int32 → Nat → Int32 → Int32} {kd skd : Nat → Int32} {N w k x y : Nat} {A : AF} (h : okN N A w) (hN : N ≤ 20) (hl : lnOK N k x y) (hw : w + 1 ≤ 1000) (hpos : ∀ al r g, 0 < tvf al r g) : okN N (doA lt tvf kd skd A k x y).2 (w + 1) := by
  obtain ⟨l1, l2, l3, l4, l5⟩ := hl
  have hm := h.mono (show w ≤ w + 1 by omega)
  unfold doA
  split
  next c =>
    split
    next c2 => exact okN_put h hN (l2 c).1 (l2 c).2 c2 hw hpos
    next c2 => exact hm
  next c =>
    split
    next c2 =>
      cases e : takeA lt A x with
      | none => exact hm
      | some p => exact (okN_take h (l3 c2) (by omega) e).1.mono (by omega)
    next c2 =>
      split
      next c3 =>
        split
        next c4 => exact hm
        next c4 => exact (okN_meld h (l4 c3).1 (l4 c3).2 c4 (by omega) hpos).mono (by omega)
      next c3 =>
        have c5 : k = 3 := by omega
        cases e : takeA lt A x with
        | none => exact hm
        | some p => exact (okN_shelve h (l5 c5).1 (l5 c5).2 (by omega)).mono (by omega)
theorem doA_agr {N k x y : Nat} {lt lt' : Nat → Nat → Bool} {tvf : Int32 → Nat → Int32 → Int32} {kd skd kd' skd' : Nat → Int32} {A : AF} {w : Nat} (ha : Agr N lt lt') (hk : ∀ t, t < N → kd t = kd' t) (hl : lnOK N k x y) (h : okN N A w) (hw : w ≤ 1000) (hsk : k = 3 → skd y = skd' y) : doA lt tvf kd skd A k x y = doA lt' tvf kd' skd' A k x y := by
  obtain ⟨l1, l2, l3, l4, l5⟩ := hl
  unfold doA
  split
  next c => rw [(putA_agr (tvf := tvf) ha (l2 c).1 (l2 c).2 h.2.2.2.2).1]
  next c =>
    split
    next c2 => rw [(takeA_agr ha (l3 c2) h.2.2.2.2).1]
    next c2 =>
      split
      next c3 => rw [(meldA_agr (tvf := tvf) ha (l4 c3).1 (l4 c3).2 h.2.2.2.2).1]
      next c3 =>
        have c5 : k = 3 := by omega
        have e1 := (takeA_agr ha (l5 c5).1 h.2.2.2.2).1
        rw [← e1]
        cases e : takeA lt A x with
        | none => rfl
        | some p =>
          obtain ⟨t, A'⟩ := p
          have tN := (okN_take h (l5 c5).1 hw e).2
          unfold shelveA
          rw [← e1, e]
          simp only [hk t tN, hsk c5]
section DEE
variable {G : pm_G} {d : Nat} {h : pm_H}
theorem s_doLine {Q : Int32 → pm_H → Prop} {tvf : Int32 → Nat → Int32 → Int32} {N w k x y : Nat} {y' : Int32} {A : AF} (hL : La h) (hpos : ∀ al r t, 0 < tvf al r t) (hTV : TVc G d h tvf) (hN : N ≤ 20) (hl : lnOK N k x y) (hy : k ≠ 1 → y' = nI y) (hw : w + 1 ≤ 1000) (hA : okN N A w) (hC : CF (gi h) 97 A) (q : ∀ M', CF M' 97 (doA (kLt (gf h 16)) tvf (gi h 13) (gi h 11) A k x y).2 → TX (gi h) M' → Q (b2i (doA (kLt (gf h 16)) tvf (gi h 13) (gi h 11) A k x y).1) (sm h M')) : ci G (d + 7) m_X8_doLine [.ref 90, .int (nI k), .int (nI x), .int y'] h Q := by
  obtain ⟨t0, t1, t2, t3, t4, t5, t6, t7, t8, t9⟩ := hL.tri
  obtain ⟨l1, l2, l3, l4, l5⟩ := hl
  have nk0 : nI k = 0 ↔ k = 0 := nI_inj (b := 0) (by omega) (by omega)
  have nk1 : nI k = 1 ↔ k = 1 := nI_inj (b := 1) (by omega) (by omega)
  have nk2 : nI k = 2 ↔ k = 2 := nI_inj (b := 2) (by omega) (by omega)
  refine ci_wp rfl (Nat.le_of_ble_eq_true rfl) rfl (x_X8_doLine ?_)
  rw [t2]
  unfold doA at q
  by_cases c : k = 0
  · rw [if_pos (show nI k = 0 from nk0.mpr c), hy (by omega)]
    rw [if_pos c] at q
    refine ⟨t0, t9.1, s_putIn (d := d) t9 hL.lw (by decide) (l2 c).2 (by have := (l2 c).1; omega) hw hpos hTV hA.1 hC (fun z => ?_) (fun z M' hC' hX => ?_)⟩
    · rw [if_neg z] at q
      exact ⟨Or.inl rfl, _, rfl, q (gi h) hC TX.rfl'⟩
    · rw [if_pos z] at q
      exact ⟨Or.inr rfl, _, rfl, q M' hC' hX.tx⟩
  · rw [if_neg (fun z => c (nk0.mp z))]
    rw [if_neg c] at q
    by_cases c2 : k = 1
    · rw [if_pos (show nI k = 1 from nk1.mpr c2)]
      rw [if_pos c2] at q
      refine ⟨t0, t9.1, s_takeFrom (d := d + 2) t9 hL.lw.1 (l3 c2) (by omega) hA.1 hC (fun z => ?_) (fun t A' z M' hC' hX => ?_)⟩
      · rw [if_pos rfl]
        rw [z] at q
        exact ⟨_, rfl, q (gi h) hC TX.rfl'⟩
      · have := (okN_take hA (l3 c2) (by omega) z).2
        rw [if_neg (nI_nm1 (by omega))]
        rw [z] at q
        exact ⟨_, rfl, q M' hC' hX.tx⟩
    · rw [if_neg (fun z => c2 (nk1.mp z))]
      rw [if_neg c2] at q
      rw [hy c2]
      by_cases c3 : k = 2
      · rw [if_pos (show nI k = 2 from nk2.mpr c3)]
        rw [if_pos c3] at q
        refine ⟨t0, t9.1, s_meldInto (d := d) t9 hL.lw (by decide) (l4 c3).1 (l4 c3).2 (by omega) hpos hTV hA.1 hC (fun z => ?_) (fun z M' hC' hX => ?_)⟩
        · rw [if_pos z] at q
          exact ⟨Or.inl rfl, _, rfl, q (gi h) hC TX.rfl'⟩
        · rw [if_neg z] at q
          exact ⟨Or.inr rfl, _, rfl, q M' hC' hX.tx⟩
      · rw [if_neg (fun z => c3 (nk2.mp z))]
        rw [if_neg c3] at q
        have c5 : k = 3 := by omega
        refine ⟨t0, t9.1, s_shelveFrom (d := d + 1) hL (by decide) (l5 c5).1 (l5 c5).2 (by omega) hA.1 hC (fun M' hC' hX => ?_)⟩
        cases z : takeA (kLt (gf h 16)) A x with
        | none =>
          rw [z] at q
          have e : shelveA (kLt (gf h 16)) (gi h 13) (gi h 11) A x y = (-1, A) := by unfold shelveA; rw [z]
          rw [e] at hC' ⊢
          rw [if_pos rfl]
          exact ⟨_, rfl, q M' hC' hX.tx⟩
        | some p =>
          obtain ⟨t, A'⟩ := p
          rw [z] at q
          have e : ¬ (shelveA (kLt (gf h 16)) (gi h 13) (gi h 11) A x y).1 = -1 := by
            unfold shelveA
            rw [z]
            simp only
            split
            · exact show ¬ (0 : Int32) = -1 by decide
            · split
              · exact show ¬ (1 : Int32) = -1 by decide
              · exact show ¬ (0 : Int32) = -1 by decide
          rw [if_neg e]
          exact ⟨_, rfl, q M' hC' hX.tx⟩
end DEE
section RDE
variable {G : pm_G} {d : Nat} {h : pm_H} {S F P : Nat → Int32}
theorem takeA_root {lt : Nat → Nat → Bool} {A : AF} {a : Nat} : (takeA lt A a = none ↔ lrF lt A.1 a 24 = none) := by
  unfold takeA
  cases e : lrF lt A.1 a 24 with
  | none => exact ⟨fun _ => rfl, fun _ => rfl⟩
  | some r => exact ⟨fun z => (by cases z), fun z => (by cases z)⟩
/-- whether a HEAP has an ITEM to give -/
theorem r_nextNone {ky : Nat → Int32} {Q : Int32 → pm_H → Prop} {a b w : Nat} {A : AF} (hM : Md h) (hb : b + 320 ≤ 4485) (ha : a < 3) (hw : w ≤ 1000) (hA : okA A w) (hC : RA ky S b A) (k0 : takeA (rLt ky) A a = none → Q (-1) (s8 h S)) (k1 : ∀ r x : Nat, r < 16 → lrF (rLt ky) A.1 a 24 = some r → x < 24 → tr_no (A.1 (24 * a + r)) = nI x → Q (nI x) (s8 h S)) : ci G (d + 2) m_X12_nextRoot [.ref 446, .int (nI b), .int (nI a)] (s8 h S) Q := by
  refine r_nextRoot hM hb ha hw hA.1 (fun r hr => hC.1.1 a r ha hr) ?_
  cases e : lrF (rLt ky) A.1 a 24 with
  | none => exact k0 (takeA_root.mpr e)
  | some r =>
    obtain ⟨q1, q2⟩ := lrF_ok e
    have r16 : r < 16 := by
      refine Classical.byContradiction fun c => ?_
      have := hA.1.high hw (q := 24 * a + r) (by omega) (by omega)
      rw [this] at q2; cases q2
    obtain ⟨x, hx, e2, -⟩ := (hC.1.1 a r ha r16).1.tg q2
    have := k1 r x r16 e hx e2
    rw [← e2] at this
    exact this
theorem r_doesLine {Q : Int32 → pm_H → Prop} {tvf : Int32 → Nat → Int32 → Int32} {N b w k x y : Nat} {y' : Int32} {A : AF} (hM : Mk h) (hNi : gi h 452 2 = nI N) (hpos : ∀ al r t, 0 < tvf al r t) (hG : GRc G (d + 20) h tvf) (hN : N ≤ 20) (hb : b + 320 ≤ 4485) (hl : lnOK N k x y) (hxy : k = 2 → x ≠ y) (hy : k ≠ 1 → y' = nI y) (hw : w + 1 ≤ 1000) (hA : okN N A w) (hC : RA (gi h 460) S b A) (q : ∀ S' F' P', RA (gi h 460) S' b (doA (rLt (gi h 460)) tvf (fun u => gi h 452 (7 + 4 * u)) (fun s => gi h 452 (5 + s)) A k x y).2 → RZ S S' b → Q (b2i (doA (rLt (gi h 460)) tvf (fun u => gi h 452 (7 + 4 * u)) (fun s => gi h 452 (5 + s)) A k x y).1) (s8 (fp h F' P') S')) : ci G (d + 23) m_X12_doesLine [.ref 446, .int (nI b), .int (nI k), .int (nI x), .int y'] (s8 (fp h F P) S) Q := by
  obtain ⟨l1, l2, l3, l4, l5⟩ := hl
  have nk0 : nI k = 0 ↔ k = 0 := nI_inj (b := 0) (by omega) (by omega)
  have nk1 : nI k = 1 ↔ k = 1 := nI_inj (b := 1) (by omega) (by omega)
  have nk2 : nI k = 2 ↔ k = 2 := nI_inj (b := 2) (by omega) (by omega)
  refine ci_wp rfl (Nat.le_of_ble_eq_true rfl) rfl (x_X12_doesLine ?_)
  unfold doA at q
  by_cases c : k = 0
  · rw [if_pos (show nI k = 0 from nk0.mpr c), hy (by omega)]
    rw [if_pos c] at q
    have hx := (l2 c).1
    have g17 : gp (s8 (fp h F P) S) 446 17 = 458 := hM.1.2.1
    rw [g17, show (240 : Int32) = nI 240 from rfl, ixg, cl_nI (show b + 240 + x < 2 ^ 31 by omega), s8_gi, (hC.2 x (by omega)).1]
    refine ⟨hM.1.1, 4485, hM.1.2.2, vp_nI (by omega) (by decide), ?_⟩
    have nm := neg_m1 (hA.1.2.1 x (by omega))
    by_cases z : A.2.1 x = -1
    · rw [if_pos (nm.2.mpr z)]
      rw [if_pos z] at q
      exact r_puts (d := d) hM hb (l2 c).2 (by omega) hw hpos hG hA.1 hC z (fun S' F' P' hC' hZ => ⟨_, rfl, q S' F' P' hC' hZ⟩)
    · rw [if_neg (fun y => z (nm.2.mp y))]
      rw [if_neg z] at q
      exact ⟨_, rfl, q S F P hC RZ.rfl'⟩
  · rw [if_neg (fun z => c (nk0.mp z))]
    rw [if_neg c] at q
    by_cases c3 : k = 2
    · rw [if_pos (show nI k = 2 from nk2.mpr c3), hy (by omega)]
      rw [if_neg (by omega), if_pos c3, if_neg (hxy c3)] at q
      exact ⟨hM.1.1, r_melds (d := d) hM hNi hN hb (l4 c3).1 (l4 c3).2 (hxy c3) (by omega) hpos hG hA.1 hC (fun t h1 h2 => (hA.2.2.1 t h1 h2).1) (fun S' F' P' hC' hZ => ⟨_, rfl, q S' F' P' hC' hZ⟩)⟩
    · rw [if_neg (fun z => c3 (nk2.mp z))]
      have hx : x < 3 := by
        by_cases c2 : k = 1
        · exact l3 c2
        · exact (l5 (by omega)).1
      refine ⟨hM.1.1, r_nextNone (h := fp h F P) (d := d + 20) hM.1 hb hx (by omega) hA.1 hC (fun z => ?_) (fun r n r16 e hn e2 => ?_)⟩
      · rw [if_neg (show ¬ (0 : Int32) ≤ -1 by decide)]
        refine ⟨_, rfl, ?_⟩
        have := q S F P
        rw [z] at this
        by_cases c2 : k = 1
        · rw [if_pos c2] at this
          exact this hC RZ.rfl'
        · rw [if_neg c2, if_neg c3] at this
          exact this hC RZ.rfl'
      · rw [if_pos (nI_0le (by omega))]
        by_cases c2 : k = 1
        · rw [if_pos (show nI k = 1 from nk1.mpr c2)]
          rw [if_pos c2] at q
          refine ⟨hM.1.1, r_takes (h := fp h F P) (ky := gi h 460) (d := d + 2) hM.1 hb hx (by omega) hA.1 hC (fun z => ?_) (fun t A' z S' hC' hZ => ?_)⟩
          · rw [takeA_root, e] at z; cases z
          · rw [z] at q
            exact ⟨_, rfl, q S' F P hC' hZ⟩
        · rw [if_neg (fun z => c2 (nk1.mp z)), hy c2]
          rw [if_neg c2, if_neg c3] at q
          have c5 : k = 3 := by omega
          have hne : takeA (rLt (gi h 460)) A x ≠ none := fun z => by rw [takeA_root, e] at z; cases z
          refine ⟨hM.1.1, r_shelves (d := d + 1) hM hNi hN hb hx (l5 c5).2 (by omega) hA.1 hA.2.1 hC (fun u h1 h2 => (hA.2.2.1 u h1 h2).2) hne (fun S' hC' hZ => ?_)⟩
          cases z : takeA (rLt (gi h 460)) A x with
          | none => exact absurd z hne
          | some p =>
            rw [z] at q
            exact ⟨_, rfl, q S' F P hC' hZ⟩
end RDE
