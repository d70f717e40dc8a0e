/-! STEPS: the splits of some ITEMS, till one is found -/
def chsF (lt : Nat → Nat → Bool) (tvf : Int32 → Nat → Int32 → Int32) (c : Nat → Bool) : Nat → AF
  | 0 => A0
  | n + 1 => if c n = true then putA lt tvf (chsF lt tvf c n) n 0 else chsF lt tvf c n
theorem chsF_ok {lt : Nat → Nat → Bool} {tvf : Int32 → Nat → Int32 → Int32} {c : Nat → Bool} (hpos : ∀ al r g, 0 < tvf al r g) : ∀ n, n ≤ 20 → okA (chsF lt tvf c n) n ∧ (∀ t, n ≤ t → (chsF lt tvf c n).2.1 t = -1) ∧ ∀ t, inHp (chsF lt tvf c n) 0 t = (decide (t < n) && c t)
  | 0, _ => ⟨okA_A0, fun _ _ => rfl, fun t => by
    unfold inHp
    rw [show (chsF lt tvf c 0).2.1 t = -1 from rfl, decide_eq_false (fun q => nI_nm1 (by decide) q.symm), decide_eq_false (Nat.not_lt_zero t), Bool.false_and]⟩
  | n + 1, hn => by
    obtain ⟨h1, h2, h3⟩ := chsF_ok (lt := lt) (tvf := tvf) (c := c) hpos n (by omega)
    rw [chsF]
    by_cases z : c n = true
    · rw [if_pos z]
      refine ⟨okA_put h1 (by omega) (by decide) (h2 n (Nat.le_refl _)) (by omega) hpos, fun t ht => ?_, fun t => ?_⟩
      · show up1 (chsF lt tvf c n).2.1 n _ t = -1
        rw [up1_ne _ _ (by omega)]
        exact h2 t (by omega)
      · show decide (up1 (chsF lt tvf c n).2.1 n (nI 0) t = nI 0) = _
        by_cases e : t = n
        · rw [e, up1_at, z, decide_eq_true rfl, decide_eq_true (Nat.lt_succ_self n)]; rfl
        · rw [up1_ne _ _ e]
          have := h3 t
          unfold inHp at this
          rw [this]
          congr 1
          rw [decide_eq_decide]; omega
    · have z : c n = false := by simpa using z
      rw [if_neg (by rw [z]; decide)]
      have w1 : okA (chsF lt tvf c n) (n + 1) := by
        obtain ⟨⟨a1, a2, a3, a4, a5, a6, a7, a8⟩, a9, a10⟩ := h1
        exact ⟨⟨a1, a2, a3, a4, a5, a6, a7, by omega⟩, a9, a10⟩
      refine ⟨w1, fun t ht => h2 t (by omega), fun t => ?_⟩
      rw [h3 t]
      by_cases e : t = n
      · rw [e, z, Bool.and_false, Bool.and_false]
      · congr 1
        rw [decide_eq_decide]; omega
def splS (ah lt : Nat → Nat → Bool) (tvf : Int32 → Nat → Int32 → Int32) (c : Nat → Bool) : Option Nat := grL ah (thd (comL lt 0 (chsF lt tvf c 20)).length) none (comL lt 0 (chsF lt tvf c 20))
def keepC (ah : Nat → Nat → Bool) (c : Nat → Bool) (f g : Nat) (t : Nat) : Bool := c t && !(decide (t = f) || (ah t f != ah g f))
def stF (ah lt : Nat → Nat → Bool) (tvf : Int32 → Nat → Int32 → Int32) (g : Nat) : Nat → Nat → (Nat → Bool) → Int32
  | 0, _, _ => -1
  | n + 1, s, c => match splS ah lt tvf c with
    | none => -1
    | some f => if f = g then nI s else stF ah lt tvf g n (s + 1) (keepC ah c f g)
theorem grL_mem {ah : Nat → Nat → Bool} : ∀ {m : Nat} {g : Option Nat} {l : List Nat} {x : Nat}, grL ah m g l = some x → g = some x ∨ x ∈ l
  | 0, _, _, _, h => Or.inl h
  | m + 1, _, [], _, h => Or.inl h
  | m + 1, g, t :: r, x, h => by
    cases g with
    | none =>
      have h : grL ah m (some t) r = some x := h
      rcases grL_mem h with q | q
      · cases q; exact Or.inr List.mem_cons_self
      · exact Or.inr (List.mem_cons_of_mem _ q)
    | some b =>
      have h : grL ah m (some (if ah b t = true then t else b)) r = some x := h
      rcases grL_mem h with q | q
      · split at q
        · cases q; exact Or.inr List.mem_cons_self
        · exact Or.inl q
      · exact Or.inr (List.mem_cons_of_mem _ q)
theorem grL_some {ah : Nat → Nat → Bool} : ∀ {m : Nat} {b : Nat} {l : List Nat}, ∃ x, grL ah m (some b) l = some x
  | 0, b, _ => ⟨b, rfl⟩
  | m + 1, b, [] => ⟨b, rfl⟩
  | m + 1, b, t :: r => by
    rw [grL]
    exact grL_some
theorem thd_pos (n : Nat) : ∃ m, thd n = m + 1 := by
  unfold thd
  split
  · exact ⟨0, rfl⟩
  · exact ⟨n / 3 - 1, by omega⟩
theorem splS_ok {ah lt : Nat → Nat → Bool} {tvf : Int32 → Nat → Int32 → Int32} {c : Nat → Bool} {g : Nat} (hpos : ∀ al r g, 0 < tvf al r g) (hg : g < 20) (hc : c g = true) : ∃ f, splS ah lt tvf c = some f ∧ f < 20 ∧ c f = true := by
  obtain ⟨h1, -, h3⟩ := chsF_ok (lt := lt) (tvf := tvf) (c := c) hpos 20 (Nat.le_refl _)
  obtain ⟨g1, g2, g3⟩ := comF_ok (lt := lt) (a := 0) (by decide) (show 20 ≤ 1000 by decide) 20 _ h1 (cnt20 _)
  have hm : g ∈ comL lt 0 (chsF lt tvf c 20) := (g2 g).mpr ⟨hg, by rw [h3, hc, decide_eq_true hg]; rfl⟩
  unfold splS
  obtain ⟨m, em⟩ := thd_pos (comL lt 0 (chsF lt tvf c 20)).length
  rw [em]
  cases e : comL lt 0 (chsF lt tvf c 20) with
  | nil => rw [e] at hm; cases hm
  | cons t r =>
    rw [grL]
    obtain ⟨x, ex⟩ := grL_some (ah := ah) (m := m) (b := t) (l := r)
    refine ⟨x, ex, ?_⟩
    have hx : x ∈ comL lt 0 (chsF lt tvf c 20) := by
      rw [e]
      rcases grL_mem ex with q | q
      · cases q; exact List.mem_cons_self
      · exact List.mem_cons_of_mem _ q
    obtain ⟨x1, x2⟩ := (g2 x).mp hx
    rw [h3 x, Bool.and_eq_true] at x2
    exact ⟨x1, x2.2⟩
theorem keepC_le {ah : Nat → Nat → Bool} {c : Nat → Bool} {f g : Nat} (hf : f < 20) (hc : c f = true) : cnt (keepC ah c f g) 20 < cnt c 20 :=
  cnt_lt (x := f) (fun j _ hj => by unfold keepC at hj; rw [Bool.and_eq_true] at hj; exact hj.1) hf (by unfold keepC; rw [decide_eq_true rfl, Bool.true_or, Bool.not_true, Bool.and_false]) hc
theorem keepC_g {ah : Nat → Nat → Bool} {c : Nat → Bool} {f g : Nat} (hne : f ≠ g) (hc : c g = true) : keepC ah c f g g = true := by
  unfold keepC
  rw [hc, decide_eq_false (fun q => hne q.symm)]
  simp
section STP
variable {G : pm_G} {d : Nat} {h : pm_H}
def ChS (M : Nat → Nat → Int32) (c : Nat → Bool) : Prop := ∀ t, t < 20 → M 94 t = b2i (c t)
theorem b2i_1 {b : Bool} : b2i b = 1 ↔ b = true := by cases b <;> decide
theorem TX.law {M M' : Nat → Nat → Int32} {b : Nat} (h : TX M M') (hb : b = 3 ∨ b = 17 ∨ b = 19) : M' b = M b := h b (by omega) (by omega)
theorem TY.law {M M' : Nat → Nat → Int32} {b : Nat} (h : TY M M') (hb : b = 3 ∨ b = 17 ∨ b = 19) : M' b = M b := h b (by omega) (by omega)
theorem s_splitOfChosen {Q : Int32 → pm_H → Prop} {tvf : Int32 → Nat → Int32 → Int32} {c : Nat → Bool} (hL : La h) (hpos : ∀ al r t, 0 < tvf al r t) (hTV : TVc G d h tvf) (hc : ChS (gi h) c) (k : ∀ M', TX (gi h) M' → Q (oI (splS (ahC (gf h 16)) (kLt (gf h 16)) tvf c)) (sm h M')) : ci G (d + 7) m_X8_splitOfChosen [.ref 90] h Q := by
  obtain ⟨t0, t1, t2, t3, t4, t5, t6, t7, t8, t9⟩ := hL.tri
  refine ci_wp rfl (Nat.le_of_ble_eq_true rfl) rfl (x_X8_splitOfChosen ?_)
  rw [t2]
  refine ⟨t0, t9.1, s_clear (d := d + 4) t9 (fun M1 hC1 hX1 => ?_)⟩
  have key := up_to (P := fun n => ∀ M, CF M 97 (chsF (kLt (gf h 16)) tvf c n) → TX (gi h) M → Wp G (m_X8_splitOfChosen, d + 7, 0, 0, fun v h1 => ∃ r, v = some (.int r) ∧ Q r h1) (0, 0) 9 [.ref 90, .int (nI n)] [] (sm h M)) 20 (fun n hn ih => ?_) ?_
  · exact key M1 hC1 hX1.tx
  · intro M hC hX
    obtain ⟨o1, o2, o3⟩ := chsF_ok (lt := kLt (gf h 16)) (tvf := tvf) (c := c) hpos n (by omega)
    refine x_X8_splitOfChosen_9 ?_
    have g1 : gp (sm h M) 90 1 = 97 := t2
    have g4 : gp (sm h M) 90 4 = 93 := t4
    rw [if_neg (li_no 20 20 rfl hn (by decide)), g4, nI_1]
    have r93 : Ro (sm h M) 93 94 20 := t7
    refine ⟨t0, t7.1, row_at r93 ?_⟩
    rw [rd_in hn (by decide), show gi (sm h M) 94 = gi h 94 from hX 94 (by omega) (by decide), hc n hn, g1]
    rw [chsF] at ih
    by_cases z : c n = true
    · rw [if_pos (b2i_1.mpr z)]
      rw [if_pos z] at ih
      refine ⟨t0, t9.1, s_putIn (a := 0) (d := d) (h := sm h M) t9 hL.lw (by decide) (by decide) hn (by omega) hpos (hTV.sm fun b hb => hX.law hb) o1 hC (fun q => absurd (o2 n (Nat.le_refl _)) q) (fun _ M2 hC2 hX2 => ?_)⟩
      exact ih M2 hC2 (hX.trans hX2.tx)
    · rw [if_neg (fun q => z (b2i_1.mp q))]
      rw [if_neg z] at ih
      exact ih M hC hX
  · intro M hC hX
    obtain ⟨o1, o2, o3⟩ := chsF_ok (lt := kLt (gf h 16)) (tvf := tvf) (c := c) hpos 20 (by omega)
    refine x_X8_splitOfChosen_9 ?_
    rw [if_pos (li_yes 20 20 rfl)]
    exact ⟨t0, s_third (a := 0) (d := d + 1) (h := sm h M) hL (by decide) (show 20 ≤ 1000 by decide) o1 hC (fun M' hX' => ⟨_, rfl, k M' (hX.trans hX')⟩)⟩
theorem s_keepSide {Q : pm_H → Prop} {c : Nat → Bool} {f g : Nat} (hL : La h) (hf : f < 20) (hg : g < 20) (hc : ChS (gi h) c) (k : ∀ M', TY (gi h) M' → ChS M' (keepC (ahC (gf h 16)) c f g) → Q (sm h M')) : cv G (d + 3) m_X8_keepSide [.ref 90, .int (nI f), .int (nI g)] h Q := by
  obtain ⟨t0, t1, t2, t3, t4, t5, t6, t7, t8, t9⟩ := hL.tri
  have hP := hL.lw.1
  refine cv_wp rfl (Nat.le_of_ble_eq_true rfl) rfl (x_X8_keepSide ?_)
  rw [t1]
  refine ⟨t0, hP.1, s_isAhead hP hg hf ?_⟩
  have key := up_to (P := fun n => ∀ M, TY (gi h) M → (∀ t, t < 20 → M 94 t = b2i (if t < n then keepC (ahC (gf h 16)) c f g t else c t)) → Wp G (m_X8_keepSide, d + 3, 0, 0, fun v h1 => v = none ∧ Q h1) (0, 0) 13 [.ref 90, .int (nI f), .null, .int (b2i (ahC (gf h 16) g f)), .int (nI n)] [] (sm h M)) 20 (fun n hn ih => ?_) ?_
  · exact key (gi h) TY.rfl' (fun t ht => by rw [if_neg (Nat.not_lt_zero t)]; exact hc t ht)
  · intro M hX h94
    refine x_X8_keepSide_13 ?_
    have g0 : gp (sm h M) 90 0 = 3 := t1
    have g4 : gp (sm h M) 90 4 = 93 := t4
    have r93 : Ro (sm h M) 93 94 20 := t7
    rw [if_neg (li_no 20 20 rfl hn (by decide)), g0, g4, nI_1]
    have put : keepC (ahC (gf h 16)) c f g n = false → Wp G (m_X8_keepSide, d + 3, 0, 0, fun v h1 => v = none ∧ Q h1) (0, 0) 13 [.ref 90, .int (nI f), .null, .int (b2i (ahC (gf h 16) g f)), .int (nI (n + 1))] [] (sm (sm h M) (wr (gi (sm h M)) 94 20 (nI n) 0)) := by
      intro z
      rw [wr_in hn (by decide)]
      refine ih _ (hX.trans (TY.u (by decide))) (fun t ht => ?_)
      rw [pm_u_at]
      unfold pm_ui
      by_cases e : t = n
      · rw [if_pos e, if_pos (by omega), e, z]; rfl
      · rw [if_neg e]
        have := h94 t ht
        rw [show gi (sm h M) 94 t = M 94 t from rfl, this]
        by_cases l : t < n
        · rw [if_pos l, if_pos (by omega)]
        · rw [if_neg l, if_neg (by omega)]
    have stay : keepC (ahC (gf h 16)) c f g n = c n → Wp G (m_X8_keepSide, d + 3, 0, 0, fun v h1 => v = none ∧ Q h1) (0, 0) 13 [.ref 90, .int (nI f), .null, .int (b2i (ahC (gf h 16) g f)), .int (nI (n + 1))] [] (sm h M) := by
      intro z
      refine ih _ hX (fun t ht => ?_)
      rw [h94 t ht]
      by_cases e : t = n
      · rw [if_neg (by omega), if_pos (by omega), e, z]
      · by_cases l : t < n
        · rw [if_pos l, if_pos (by omega)]
        · rw [if_neg l, if_neg (by omega)]
    by_cases e : n = f
    · rw [if_pos (by rw [e])]
      exact ⟨t0, t7.1, row_set r93 (put (by unfold keepC; rw [decide_eq_true e, Bool.true_or, Bool.not_true, Bool.and_false]))⟩
    · rw [if_neg (fun q => e ((nI_inj (by omega) (by omega)).mp q))]
      refine ⟨t0, hP.1, s_isAhead (h := sm h M) hP hn hf ?_⟩
      show if b2i (ahC (gf h 16) n f) = b2i (ahC (gf h 16) g f) then _ else _
      by_cases z : ahC (gf h 16) n f = ahC (gf h 16) g f
      · rw [if_pos (by rw [z])]
        exact stay (by unfold keepC; rw [decide_eq_false e, z]; simp)
      · rw [if_neg (fun q => z (by
          revert q
          cases ahC (gf h 16) n f <;> cases ahC (gf h 16) g f <;> decide))]
        exact ⟨t0, by rw [show gp (sm h M) 90 4 = 93 from t4]; exact t7.1, by rw [show gp (sm h M) 90 4 = 93 from t4]; exact row_set r93 (put (by
          unfold keepC
          rw [decide_eq_false e, Bool.false_or, bne_iff_ne.mpr z]; simp))⟩
  · intro M hX h94
    refine x_X8_keepSide_13 ?_
    rw [if_pos (li_yes 20 20 rfl)]
    exact ⟨rfl, k M hX (fun t ht => by rw [h94 t ht, if_pos ht])⟩
theorem s_stepsLoop {post : pm_PT} {tvf : Int32 → Nat → Int32 → Int32} {g : Nat} (hL : La h) (hpos : ∀ al r t, 0 < tvf al r t) (hTV : TVc G d h tvf) (hg : g < 20) : ∀ (n s : Nat) (c : Nat → Bool) (M : Nat → Nat → Int32), s + n = 21 → cnt c 20 ≤ n → c g = true → ChS M c → TY (gi h) M → (∀ M', TY (gi h) M' → post (some (.int (stF (ahC (gf h 16)) (kLt (gf h 16)) tvf g n s c))) (sm h M')) → Wp G (m_X8_stepsTo, d + 8, 0, 0, post) (0, 0) 62 [.ref 90, .null, .null, .null, .int (nI g), .int (nI s), .null] [] (sm h M) := by
  obtain ⟨t0, t1, t2, t3, t4, t5, t6, t7, t8, t9⟩ := hL.tri
  intro n
  induction n with
  | zero =>
    intro s c M hs hcn hcg hc hX k
    have := cnt_pos hg hcg
    omega
  | succ n ih =>
    intro s c M hs hcn hcg hc hX k
    obtain ⟨f, e1, e2, e3⟩ := splS_ok (ah := ahC (gf h 16)) (lt := kLt (gf h 16)) (tvf := tvf) hpos hg hcg
    rw [stF, e1] at k
    simp only at k
    refine x_X8_stepsTo_62 ?_
    rw [if_neg (show ¬ (20 : Int32) < nI s by rw [i_lt, nI_toInt (by omega)]; show ¬ (20 : Int) < _; omega), nI_1]
    refine ⟨t0, s_splitOfChosen (d := d) (h := sm h M) (c := c) hL hpos (hTV.sm fun b hb => hX.law hb) hc (fun M2 hX2 => ?_)⟩
    show if oI (splS (ahC (gf h 16)) (kLt (gf h 16)) tvf c) = nI g then _ else _
    rw [e1]
    by_cases z : f = g
    · rw [if_pos (show oI (some f) = nI g by rw [z]; rfl)]
      rw [if_pos z] at k
      exact k M2 (hX.trans hX2.ty)
    · rw [show oI (some f) = nI f from rfl, if_neg (fun q => z ((nI_inj (by omega) (by omega)).mp q))]
      rw [if_neg z] at k
      refine ⟨t0, s_keepSide (d := d + 4) (h := sm h M2) (c := c) (f := f) (g := g) hL e2 hg (fun t ht => by rw [show gi (sm h M2) 94 = M2 94 from rfl, show M2 94 = M 94 from hX2 94 (by omega) (by decide)]; exact hc t ht) (fun M3 hX3 hc3 => ?_)⟩
      exact ih (s + 1) (keepC (ahC (gf h 16)) c f g) M3 (by omega) (by have := keepC_le (ah := ahC (gf h 16)) (g := g) e2 e3; omega) (keepC_g z hcg) hc3 (hX.trans (hX2.ty.trans hX3)) k
theorem s_stepsTo {Q : Int32 → pm_H → Prop} {tvf : Int32 → Nat → Int32 → Int32} {f a : Nat} {i : Int32} {hp : Nat → Int32} (hL : La h) (hf : f ∈ FLs) (hf2 : f ≠ 97) (ha : a < 3) (hpos : ∀ al r t, 0 < tvf al r t) (hTV : TVc G d h tvf) (hv : ∀ t, t < 20 → gi h (f + 26) t = hp t) (k0 : fnd (selP (ahC (gf h 16)) hp (nI a) i) 20 = none → Q (-1) h) (k1 : ∀ g, fnd (selP (ahC (gf h 16)) hp (nI a) i) 20 = some g → ∀ M', TY (gi h) M' → Q (stF (ahC (gf h 16)) (kLt (gf h 16)) tvf g 20 1 (fun t => decide (hp t = nI a))) (sm h M')) : ci G (d + 8) m_X8_stepsTo [.ref 90, .ref f, .int (nI a), .int i] h Q := by
  obtain ⟨t0, t1, t2, t3, t4, t5, t6, t7, t8, t9⟩ := hL.tri
  have hF := fa_of hL hf
  refine ci_wp rfl (Nat.le_of_ble_eq_true rfl) rfl (x_X8_stepsTo ⟨hF.1, s_selected (d := d + 3) hF hL.lw.1 hv ?_⟩)
  cases e : fnd (selP (ahC (gf h 16)) hp (nI a) i) 20 with
  | none =>
    rw [if_pos (show oI none = -1 from rfl)]
    exact ⟨_, rfl, k0 e⟩
  | some g =>
    obtain ⟨g1, g2⟩ := fnd_lt e
    rw [show oI (some g) = nI g from rfl, if_neg (nI_nm1 (by omega))]
    have fne : f + 26 < 90 ∨ 128 ≤ f + 26 := (FLs_sep f hf hf2).2
    have key := up_to (P := fun n => ∀ M, TY (gi h) M → (∀ t, t < n → M 94 t = b2i (decide (hp t = nI a))) → Wp G (m_X8_stepsTo, d + 8, 0, 0, fun v h1 => ∃ r, v = some (.int r) ∧ Q r h1) (0, 0) 19 [.ref 90, .ref f, .int (nI a), .null, .int (nI g), .int (nI n), .null] [] (sm h M)) 20 (fun n hn ih => ?_) ?_
    · exact key (gi h) TY.rfl' (fun t ht => absurd ht (Nat.not_lt_zero t))
    · intro M hX h94
      refine x_X8_stepsTo_19 ?_
      have g4 : gp (sm h M) 90 4 = 93 := t4
      have r93 : Ro (sm h M) 93 94 20 := t7
      have hFm : Fa (sm h M) f := hF
      rw [if_neg (li_no 20 20 rfl hn (by decide)), g4, nI_1]
      refine ⟨t0, hF.1, f_row13 hFm, g_at13 hFm ?_⟩
      rw [rd_in hn (by decide), show gi (sm h M) (f + 26) = gi h (f + 26) from hX (f + 26) fne (by omega), hv n hn]
      have nx : ∀ v : Int32, v = b2i (decide (hp n = nI a)) → Wp G (m_X8_stepsTo, d + 8, 0, 0, fun v h1 => ∃ r, v = some (.int r) ∧ Q r h1) (0, 0) 19 [.ref 90, .ref f, .int (nI a), .null, .int (nI g), .int (nI (n + 1)), .null] [] (sm (sm h M) (wr (gi (sm h M)) 94 20 (nI n) v)) := by
        intro v hv2
        rw [wr_in hn (by decide)]
        refine ih _ (hX.trans (TY.u (by decide))) (fun t ht => ?_)
        rw [pm_u_at]
        unfold pm_ui
        by_cases e : t = n
        · rw [if_pos e, e]; exact hv2
        · rw [if_neg e]; exact h94 t (by omega)
      by_cases z : hp n = nI a
      · rw [if_pos z]
        exact ⟨t7.1, row_set r93 (nx 1 (by rw [decide_eq_true z]; rfl))⟩
      · rw [if_neg z]
        exact ⟨t7.1, row_set r93 (nx 0 (by rw [decide_eq_false z]; rfl))⟩
    · intro M hX h94
      refine x_X8_stepsTo_19 ?_
      rw [if_pos (li_yes 20 20 rfl)]
      unfold selP at g2
      rw [Bool.and_eq_true] at g2
      exact s_stepsLoop (d := d) hL hpos hTV g1 20 1 (fun t => decide (hp t = nI a)) M rfl (cnt20 _) g2.1 (fun t ht => h94 t ht) hX (fun M' hX' => ⟨_, rfl, k1 g e M' hX'⟩)
end STP
