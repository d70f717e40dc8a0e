/-! THE REFERENCE: STEPS, by the bits of a number -/
def bitI (m : Int32) (t : Nat) : Bool := m.toBitVec.getLsbD t
theorem bit_shl : ∀ t ∈ List.range 20, ∀ u ∈ List.range 20, ((1 : Int32) <<< (nI t &&& 31)).toBitVec.getLsbD u = decide (u = t) := by decide +kernel
theorem bit_or (a b : Int32) (t : Nat) : bitI (a ||| b) t = (bitI a t || bitI b t) := by
  unfold bitI
  rw [Int32.toBitVec_or, BitVec.getLsbD_or]
theorem bit_and (a b : Int32) (t : Nat) : bitI (a &&& b) t = (bitI a t && bitI b t) := by
  unfold bitI
  rw [Int32.toBitVec_and, BitVec.getLsbD_and]
theorem bit_xor (a b : Int32) (t : Nat) : bitI (a ^^^ b) t = (bitI a t ^^ bitI b t) := by
  unfold bitI
  rw [Int32.toBitVec_xor, BitVec.getLsbD_xor]
theorem bit_m1 : ∀ t ∈ List.range 20, (-1 : Int32).toBitVec.getLsbD t = true := by decide +kernel
theorem bit_0 (t : Nat) : bitI 0 t = false := by
  unfold bitI
  rw [show (0 : Int32).toBitVec = 0#32 from rfl]
  exact BitVec.getLsbD_zero
theorem bit_one {t u : Nat} (ht : t < 20) (hu : u < 20) : bitI ((1 : Int32) <<< (nI t &&& 31)) u = decide (u = t) := bit_shl t (List.mem_range.mpr ht) u (List.mem_range.mpr hu)
theorem bit_not {t u : Nat} (ht : t < 20) (hu : u < 20) : bitI (((1 : Int32) <<< (nI t &&& 31)) ^^^ (-1)) u = !decide (u = t) := by
  rw [bit_xor, bit_one ht hu, show bitI (-1) u = true from bit_m1 u (List.mem_range.mpr hu), Bool.xor_true]
theorem sh_k : ∀ t ∈ List.range 20, ((nI t &&& 31).toBitVec.smod 32).toNat = t := by decide +kernel
theorem bit_at {m : Int32} {t : Nat} (ht : t < 20) : (m >>> (nI t &&& 31)) &&& 1 = 1 ↔ bitI m t = true := by
  rw [pk_and _ 1 rfl]
  have e : (m >>> (nI t &&& 31)).toBitVec.toNat % 2 ^ 1 = (bitI m t).toNat := by
    unfold bitI
    rw [Int32.toBitVec_shiftRight]
    have s := sh_k t (List.mem_range.mpr ht)
    have := BitVec.getLsbD_sshiftRight m.toBitVec t 0
    have e2 : m.toBitVec.sshiftRight' ((nI t &&& 31).toBitVec.smod 32) = m.toBitVec.sshiftRight t := by
      unfold BitVec.sshiftRight'
      rw [s]
    rw [e2]
    have e3 : (m.toBitVec.sshiftRight t).getLsbD 0 = m.toBitVec.getLsbD t := by
      rw [this]
      simp
      omega
    rw [← e3, ← BitVec.testBit_toNat, Nat.testBit_zero]
    have := Nat.mod_two_eq_zero_or_one (m.toBitVec.sshiftRight t).toNat
    rcases this with q | q <;> simp [q]
  rw [e]
  cases bitI m t <;> decide
/-- all below the places of the trial stays -/
def RY (S S' : Nat → Int32) : Prop := ∀ i, i < 3795 → S' i = S i
theorem RY.rfl' {S : Nat → Int32} : RY S S := fun _ _ => rfl
theorem RY.trans {S S1 S2 : Nat → Int32} (h1 : RY S S1) (h2 : RY S1 S2) : RY S S2 := fun i hi => (h2 i hi).trans (h1 i hi)
theorem RZ.ry {S S' : Nat → Int32} {b : Nat} (h : RZ S S' b) (hb : 3795 ≤ b) : RY S S' := fun i hi => h i (Or.inl (by omega))
section RST
variable {G : pm_G} {d : Nat} {h : pm_H} {F P : Nat → Int32}
theorem r_splitOfSome {tvf : Int32 → Nat → Int32 → Int32} {S C : Nat → Int32} {Q : Int32 → pm_H → Prop} {N : Nat} {m : Int32} {c : Nat → Bool} (hL : La h) (hN : gi h 452 2 = nI N) (hN2 : N ≤ 20) (hpos : ∀ al r t, 0 < tvf al r t) (hG : ∀ C, GRc G (d + 20) (co h C) tvf) (hc : ∀ t, t < 20 → bitI m t = c t) (hcn : ∀ t, N ≤ t → t < 20 → c t = false) (k : ∀ S' C' F' P', RY S S' → Q (oI (splS (ahR (gi h 460)) (rLt (gi h 460)) tvf c)) (s8 (fp (co h C') F' P') S')) : ci G (d + 23) m_X12_splitOfSome [.ref 446, .int m] (s8 (fp (co h C) F P) S) Q := by
  have e460 : ∀ C, gi (co h C) 460 = gi h 460 := fun C => co_ne h C (by decide)
  have stop : ∀ n, n ≤ 20 - N → chsF (rLt (gi h 460)) tvf c (N + n) = chsF (rLt (gi h 460)) tvf c N := by
    intro n
    induction n with
    | zero => intro _; rfl
    | succ n ih =>
      intro hn
      show chsF _ _ _ ((N + n) + 1) = _
      rw [chsF, if_neg (by rw [hcn (N + n) (by omega) (by omega)]; decide)]
      exact ih (by omega)
  have e20 := stop (20 - N) (Nat.le_refl _)
  rw [show N + (20 - N) = 20 by omega] at e20
  refine ci_wp rfl (Nat.le_of_ble_eq_true rfl) rfl (x_X12_splitOfSome ⟨hL.md.1, ?_⟩)
  refine r_empties (h := fp (co h C) F P) (ky := gi h 460) (b := 4140) (d := d + 21) hL.md (by decide) (fun S1 hC1 hZ1 => ?_)
  have key := up_to (P := fun n => ∀ S1 F P, RA (gi h 460) S1 4140 (chsF (rLt (gi h 460)) tvf c n) → RY S S1 → Wp G (m_X12_splitOfSome, d + 23, 0, 0, fun v h1 => ∃ r, v = some (.int r) ∧ Q r h1) (0, 0) 9 [.ref 446, .int m, .int (nI n)] [] (s8 (fp (co h C) F P) S1)) N (fun n hn ih => ?_) ?_
  · exact key S1 F P hC1 (hZ1.ry (by decide))
  · intro S1 F P hC1 hY
    obtain ⟨o1, o2, o3⟩ := chsF_ok (lt := rLt (gi h 460)) (tvf := tvf) (c := c) hpos n (by omega)
    refine x_X12_splitOfSome_9 ⟨hL.md.1, r_items (h := co h C) (d := d + 21) hL.mk (by rw [co_ne h C (by decide)]; exact hN) ?_⟩
    rw [if_neg (show ¬ nI N ≤ nI n from nI_nlen hn (by omega)), nI_1]
    rw [chsF] at ih
    by_cases z : c n = true
    · rw [if_pos ((bit_at (by omega)).mpr (by rw [hc n (by omega)]; exact z))]
      rw [if_pos z] at ih
      refine ⟨hL.md.1, r_puts (h := co h C) (a := 0) (d := d) hL.mk (by decide) (by decide) (by omega) (show n + 1 ≤ 1000 by omega) hpos (hG C) o1 (by rw [e460]; exact hC1) (o2 n (Nat.le_refl _)) (fun S2 F2 P2 hC2 hZ2 => ?_)⟩
      rw [e460] at hC2
      exact ih S2 F2 P2 hC2 (hY.trans (hZ2.ry (by decide)))
    · rw [if_neg (fun q => z (by rw [← hc n (by omega)]; exact (bit_at (by omega)).mp q))]
      rw [if_neg z] at ih
      exact ih S1 F P hC1 hY
  · intro S1 F P hC1 hY
    obtain ⟨o1, o2, o3⟩ := chsF_ok (lt := rLt (gi h 460)) (tvf := tvf) (c := c) hpos N (by omega)
    refine x_X12_splitOfSome_9 ⟨hL.md.1, r_items (h := co h C) (d := d + 21) hL.mk (by rw [co_ne h C (by decide)]; exact hN) ?_⟩
    rw [if_pos (show nI N ≤ nI N from Int32.le_refl _)]
    obtain ⟨q1, q2, q3⟩ := comF_ok (lt := rLt (gi h 460)) (a := 0) (by decide) (show N ≤ 1000 by omega) 20 _ o1 (cnt20 _)
    have c20 := cnt20 (inHp (chsF (rLt (gi h 460)) tvf c N) 0)
    refine ⟨hL.md.1, r_comesOf (ky := gi h 460) (a := 0) (b := 4140) (w := N) (d := d + 1) hL (Or.inr rfl) (by decide) (by omega) o1 hC1 (fun S2 C2 hO hZ => ?_)⟩
    refine ⟨hL.md.1, r_splitOf (h := h) (d := d + 20) hL hO (fun t ht => ((q2 t).mp ht).1) (by show (comF _ _ _ _).length ≤ 20; omega) ⟨_, rfl, ?_⟩⟩
    have := k S2 C2 F P (hY.trans (hZ.ry (by decide)))
    unfold splS at this
    rw [e20] at this
    exact this
theorem r_stepsLoop {tvf : Int32 → Nat → Int32 → Int32} {post : pm_PT} {N g : Nat} (hL : La h) (hN : gi h 452 2 = nI N) (hN2 : N ≤ 20) (hpos : ∀ al r t, 0 < tvf al r t) (hG : ∀ C, GRc G (d + 20) (co h C) tvf) (hg : g < 20) {S0 : Nat → Int32} : ∀ (n s f : Nat) (c : Nat → Bool) (m : Int32) (S C F P : Nat → Int32), s + n = 21 → cnt c 20 ≤ n → c g = true → (∀ t, t < 20 → bitI m t = c t) → (∀ t, N ≤ t → t < 20 → c t = false) → splS (ahR (gi h 460)) (rLt (gi h 460)) tvf c = some f → RY S0 S → (∀ S' C' F' P', RY S0 S' → post (some (.int (stF (ahR (gi h 460)) (rLt (gi h 460)) tvf g n s c))) (s8 (fp (co h C') F' P') S')) → Wp G (m_X12_steps, d + 24, 0, 0, post) (0, 0) 106 [.ref 446, .null, .null, .int (nI g), .int m, .int (nI s), .int (nI f), .null] [] (s8 (fp (co h C) F P) S) := by
  intro n
  induction n with
  | zero =>
    intro s f c m S C F P hs hcn hcg hc hcN e hY k
    have := cnt_pos hg hcg
    omega
  | succ n ih =>
    intro s f c m S C F P hs hcn hcg hc hcN e hY k
    obtain ⟨f', e1, e2, e3⟩ := splS_ok (ah := ahR (gi h 460)) (lt := rLt (gi h 460)) (tvf := tvf) hpos hg hcg
    rw [e] at e1
    obtain rfl : f = f' := by cases e1; rfl
    rw [stF, e] at k
    simp only at k
    refine x_X12_steps_106 ?_
    by_cases z : f = g
    · rw [if_pos (by rw [z])]
      rw [if_pos z] at k
      exact k S C F P hY
    · rw [if_neg (fun q => z ((nI_inj (by omega) (by omega)).mp q))]
      rw [if_neg z] at k
      have key := up_to (P := fun j => ∀ m', (∀ t, t < 20 → bitI m' t = if t < j then keepC (ahR (gi h 460)) c f g t else c t) → Wp G (m_X12_steps, d + 24, 0, 0, post) (0, 0) 115 [.ref 446, .null, .null, .int (nI g), .int m', .int (nI s), .int (nI f), .int (nI j)] [] (s8 (fp (co h C) F P) S)) N (fun j hj ih2 => ?_) ?_
      · exact key m (fun t ht => by rw [if_neg (Nat.not_lt_zero t)]; exact hc t ht)
      · intro m' hm'
        refine x_X12_steps_115 ⟨hL.md.1, r_items (h := co h C) (d := d + 22) hL.mk (by rw [co_ne h C (by decide)]; exact hN) ?_⟩
        rw [if_neg (show ¬ nI N ≤ nI j from nI_nlen hj (by omega)), nI_1]
        have hj20 : j < 20 := by omega
        have drop : keepC (ahR (gi h 460)) c f g j = false → ∀ t, t < 20 → bitI (m' &&& (((1 : Int32) <<< (nI j &&& 31)) ^^^ (-1))) t = if t < j + 1 then keepC (ahR (gi h 460)) c f g t else c t := by
          intro y t ht
          rw [bit_and, bit_not hj20 ht, hm' t ht]
          by_cases q : t = j
          · rw [decide_eq_true q, Bool.not_true, Bool.and_false, if_pos (by omega), q, y]
          · rw [decide_eq_false q, Bool.not_false, Bool.and_true]
            by_cases l : t < j
            · rw [if_pos l, if_pos (by omega)]
            · rw [if_neg l, if_neg (by omega)]
        have stay : keepC (ahR (gi h 460)) c f g j = c j → ∀ t, t < 20 → bitI (m' &&& (-1)) t = if t < j + 1 then keepC (ahR (gi h 460)) c f g t else c t := by
          intro y t ht
          rw [bit_and, show bitI (-1) t = true from bit_m1 t (List.mem_range.mpr ht), Bool.and_true, hm' t ht]
          by_cases q : t = j
          · rw [if_neg (by omega), if_pos (by omega), q, y]
          · by_cases l : t < j
            · rw [if_pos l, if_pos (by omega)]
            · rw [if_neg l, if_neg (by omega)]
        by_cases q : j = f
        · rw [if_pos (by rw [q])]
          exact ih2 _ (drop (by unfold keepC; rw [decide_eq_true q, Bool.true_or, Bool.not_true, Bool.and_false]))
        · rw [if_neg (fun y => q ((nI_inj (by omega) (by omega)).mp y))]
          refine ⟨hL.md.1, r_isAhead (h := co h C) (d := d + 22) hL.mk hj20 e2 ⟨hL.md.1, r_isAhead (h := co h C) (d := d + 22) hL.mk hg e2 ?_⟩⟩
          rw [co_ne h C (by decide)]
          by_cases y : ahR (gi h 460) j f = ahR (gi h 460) g f
          · rw [if_pos (by rw [y])]
            exact ih2 _ (stay (by unfold keepC; rw [decide_eq_false q, y]; simp))
          · rw [if_neg (fun w => y (by
              revert w
              cases ahR (gi h 460) j f <;> cases ahR (gi h 460) g f <;> decide))]
            exact ih2 _ (drop (by
              unfold keepC
              rw [decide_eq_false q, Bool.false_or, bne_iff_ne.mpr y]; simp))
      · intro m' hm'
        refine x_X12_steps_115 ⟨hL.md.1, r_items (h := co h C) (d := d + 22) hL.mk (by rw [co_ne h C (by decide)]; exact hN) ?_⟩
        rw [if_pos (show nI N ≤ nI N from Int32.le_refl _), nI_1]
        have kN : ∀ t, N ≤ t → t < 20 → keepC (ahR (gi h 460)) c f g t = false := fun t h1 h2 => by unfold keepC; rw [hcN t h1 h2, Bool.false_and]
        have hm2 : ∀ t, t < 20 → bitI m' t = keepC (ahR (gi h 460)) c f g t := fun t ht => by
          rw [hm' t ht]
          by_cases l : t < N
          · rw [if_pos l]
          · rw [if_neg l, hcN t (by omega) ht, kN t (by omega) ht]
        have cg' : keepC (ahR (gi h 460)) c f g g = true := keepC_g z hcg
        obtain ⟨f2, d1, d2, d3⟩ := splS_ok (ah := ahR (gi h 460)) (lt := rLt (gi h 460)) (tvf := tvf) hpos hg cg'
        refine ⟨hL.md.1, r_splitOfSome (d := d) (c := keepC (ahR (gi h 460)) c f g) hL hN hN2 hpos hG hm2 kN (fun S' C' F' P' hY' => ?_)⟩
        rw [d1]
        exact ih (s + 1) f2 _ m' S' C' F' P' (by omega) (by have := keepC_le (ah := ahR (gi h 460)) (g := g) e2 e3; omega) cg' hm2 kN d1 (hY.trans hY') k
/-- behind the choice of the one that is looked for -/
theorem r_stepsTo {tvf : Int32 → Nat → Int32 → Int32} {post : pm_PT} {N g a : Nat} {S C F P : Nat → Int32} {hp : Nat → Int32} (hL : La h) (hN : gi h 452 2 = nI N) (hN2 : N ≤ 20) (hpos : ∀ al r t, 0 < tvf al r t) (hG : ∀ C, GRc G (d + 20) (co h C) tvf) (hg : g < 20) (ha : a < 3) (hv : ∀ t, t < 20 → S (240 + t) = hp t) (hn : ∀ t, N ≤ t → t < 20 → hp t = -1) (hpg : hp g = nI a) (k : ∀ S' C' F' P', RY S S' → post (some (.int (stF (ahR (gi h 460)) (rLt (gi h 460)) tvf g 20 1 (fun t => decide (hp t = nI a))))) (s8 (fp (co h C') F' P') S')) : Wp G (m_X12_steps, d + 24, 0, 0, post) (0, 0) 52 [.ref 446, .int (nI a), .null, .int (nI g), .int 0, .int 0, .null, .null] [] (s8 (fp (co h C) F P) S) := by
  have key := up_to (P := fun j => ∀ m, (∀ t, t < 20 → bitI m t = (decide (t < j) && decide (hp t = nI a))) → Wp G (m_X12_steps, d + 24, 0, 0, post) (0, 0) 52 [.ref 446, .int (nI a), .null, .int (nI g), .int m, .int (nI j), .null, .null] [] (s8 (fp (co h C) F P) S)) N (fun j hj ih => ?_) ?_
  · exact key 0 (fun t ht => by rw [bit_0, decide_eq_false (Nat.not_lt_zero t), Bool.false_and])
  · intro m hm
    refine x_X12_steps_52 ⟨hL.md.1, r_items (h := co h C) (d := d + 22) hL.mk (by rw [co_ne h C (by decide)]; exact hN) ?_⟩
    rw [if_neg (show ¬ nI N ≤ nI j from nI_nlen hj (by omega)), nI_1]
    have g17 : gp (s8 (fp (co h C) F P) S) 446 17 = 458 := hL.md.2.1
    have hj20 : j < 20 := by omega
    rw [g17, show (240 : Int32) = nI 240 from rfl, nI_add, cl_nI (show 240 + j < 2 ^ 31 by omega), s8_gi, hv j hj20]
    refine ⟨hL.md.1, 4485, hL.md.2.2, vp_nI (by omega) (by decide), ?_⟩
    by_cases c : hp j = nI a
    · rw [if_pos c]
      refine ih _ (fun t ht => ?_)
      rw [bit_or, bit_one hj20 ht, hm t ht]
      by_cases q : t = j
      · rw [decide_eq_true q, Bool.or_true, decide_eq_true (show t < j + 1 by omega), q, decide_eq_true c]; rfl
      · rw [decide_eq_false q, Bool.or_false]
        congr 1
        rw [decide_eq_decide]; omega
    · rw [if_neg c]
      refine ih _ (fun t ht => ?_)
      rw [bit_or, bit_0, Bool.or_false, hm t ht]
      by_cases q : t = j
      · rw [q, decide_eq_false c, Bool.and_false, Bool.and_false]
      · congr 1
        rw [decide_eq_decide]; omega
  · intro m hm
    refine x_X12_steps_52 ⟨hL.md.1, r_items (h := co h C) (d := d + 22) hL.mk (by rw [co_ne h C (by decide)]; exact hN) ?_⟩
    rw [if_pos (show nI N ≤ nI N from Int32.le_refl _)]
    have cN : ∀ t, N ≤ t → t < 20 → decide (hp t = nI a) = false := fun t h1 h2 => decide_eq_false fun q => nI_nm1 (n := a) (by omega) (by rw [← q, hn t h1 h2])
    have hm2 : ∀ t, t < 20 → bitI m t = decide (hp t = nI a) := fun t ht => by
      rw [hm t ht]
      by_cases l : t < N
      · rw [decide_eq_true l, Bool.true_and]
      · rw [decide_eq_false l, Bool.false_and, cN t (by omega) ht]
    have cg : decide (hp g = nI a) = true := decide_eq_true hpg
    obtain ⟨f, d1, d2, d3⟩ := splS_ok (ah := ahR (gi h 460)) (lt := rLt (gi h 460)) (tvf := tvf) (c := fun t => decide (hp t = nI a)) hpos hg cg
    refine ⟨hL.md.1, r_splitOfSome (d := d) (c := fun t => decide (hp t = nI a)) hL hN hN2 hpos hG hm2 cN (fun S' C' F' P' hY => ?_)⟩
    rw [d1]
    exact r_stepsLoop (d := d) (S0 := S) hL hN hN2 hpos hG hg 20 1 f _ m S' C' F' P' rfl (cnt20 _) cg hm2 cN d1 hY k
end RST
