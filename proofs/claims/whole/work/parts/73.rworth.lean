/-! THE REFERENCE: what a LAW is worth -/
section RWO
variable {G : pm_G} {d : Nat} {h : pm_H}
set_option maxRecDepth 20000 in
theorem r_evalL {S F : Nat → Int32} {Q : Int32 → pm_H → Prop} (hM : Ml h) : ∀ (ops : List (Nat × Nat)) (i : Nat) (st : List Int32) (P : Nat → Int32), i + ops.length < 2200 → CR (gi h 453) i ops → okO ops st.length → SK P st → st.length ≤ 64 →
    (∀ P', Q (evO F ops st) (s8 (fp h F P') S)) →
    Wp G (m_X12_worthAt, d + 2, 0, 0, fun v h1 => ∃ r, v = some (.int r) ∧ Q r h1) (0, 0) 4 [.ref 446, .null, .int (nI st.length), .int (nI i), .null] [] (s8 (fp h F P) S)
  | [], i, st, P, hi, hc, ho, hs, hl, k => by
    have g11 : gp (s8 (fp h F P) S) 446 11 = 453 := hM.2.1
    have g16 : gp (s8 (fp h F P) S) 446 16 = 457 := hM.2.2.2.2.2.1
    have hi : i < 2200 := by simpa using hi
    have hc : gi h 453 i = 0 := hc
    refine x_X12_worthAt_4 ⟨hM.1.1.1, 2200, by rw [g11]; exact hM.2.2.1, vp_nI hi (by decide), ?_⟩
    rw [g11, cl_nI (by omega), sfgi h S F P (by decide) (by decide) (by decide), hc, if_pos (by decide)]
    refine ⟨64, by rw [g16]; exact hM.2.2.2.2.2.2, vp_nI (k := 0) (by decide) (by decide), _, rfl, ?_⟩
    rw [g16, fp_457]
    cases st with
    | nil => cases ho
    | cons x r =>
      have hr : r.length = 0 := by have : (x :: r).length = 1 := ho; rw [List.length_cons] at this; omega
      have h0 := hs.1
      rw [hr] at h0
      have := k P
      rw [show (0 : Int32).toNatClampNeg = 0 from rfl, h0]
      exact this
  | o :: ops, i, st, P, hi, ⟨⟨hc1, big⟩, hc2⟩, ho, hs, hl, k => by
    rw [List.length_cons] at hi
    have g11 : ∀ P, gp (s8 (fp h F P) S) 446 11 = 453 := fun _ => hM.2.1
    have g15 : ∀ P, gp (s8 (fp h F P) S) 446 15 = 456 := fun _ => hM.2.2.2.1
    have g16 : ∀ P, gp (s8 (fp h F P) S) 446 16 = 457 := fun _ => hM.2.2.2.2.2.1
    have c16 : ∀ P, (s8 (fp h F P) S).1[457]? = some (1, 64) := fun _ => hM.2.2.2.2.2.2
    have hob : o.1 ≤ 10 ∧ 1 ≤ o.1 := by
      rcases ho with ⟨⟨a, b⟩ | ⟨a, b⟩, -⟩ | ⟨a, -⟩ | ⟨⟨a, b⟩, -⟩ <;> omega
    obtain ⟨k0, a0⟩ := o
    have big : k0 + 16 * a0 < 2 ^ 31 := big
    have hob1 : k0 ≤ 10 := hob.1
    have hob2 : 1 ≤ k0 := hob.2
    refine x_X12_worthAt_4 ⟨hM.1.1.1, 2200, by rw [g11]; exact hM.2.2.1, vp_nI (by omega) (by decide), ?_⟩
    rw [g11, cl_nI (by omega), sfgi h S F P (by decide) (by decide) (by decide), hc1, nI_mod16 big, show (k0 + 16 * a0) % 16 = k0 by omega, if_neg (nI_neq0 (by omega) (by omega))]
    rintro _ rfl
    have push : ∀ v, stO F (k0, a0) st = v :: st → st.length < 64 → okO ops (st.length + 1) → Wp G (m_X12_worthAt, d + 1 + 1, 0, 0, fun v h1 => ∃ r, v = some (.int r) ∧ Q r h1) (0, 0) 4 [.ref 446, .null, .int (nI st.length + 1), .int (nI i + 1), .null] [] (s8 (fp h F (up1 P st.length v)) S) := by
      intro v hv hlt hok
      rw [nI_1, nI_1]
      have k : ∀ z', Q (evO F ops (stO F (k0, a0) st)) (s8 (fp h F z') S) := k
      rw [hv] at k
      exact r_evalL hM ops (i + 1) (v :: st) (up1 P st.length v) (by omega) hc2 hok ⟨up1_at _ _ _, hs.up (Nat.le_refl _)⟩ hlt k
    rcases ho with ⟨ho, hlt, hok⟩ | ⟨ho, hge, hok⟩ | ⟨ho, hge, hok⟩
    · rcases ho with ⟨h1, h2⟩ | ⟨h1, h2⟩
      · have h1 : k0 = 1 := h1
        rw [if_pos (show nI k0 = 1 by rw [h1]; rfl)]
        refine x_X12_worthAt_39 ⟨hM.1.1.1, ?_⟩
        rw [if_pos (show nI k0 = 1 by rw [h1]; rfl)]
        refine ⟨2200, by rw [g11]; exact hM.2.2.1, vp_nI (by omega) (by decide), 64, by rw [g16]; exact c16 P, vp_nI hlt (by decide), ?_⟩
        rintro _ rfl
        rw [g11, g16, cl_nI (by omega), cl_nI (by omega), sfgi h S F P (by decide) (by decide) (by decide), hc1, fp_u457, nI_div16 big, show (k0 + 16 * a0) / 16 = a0 by omega]
        exact push _ (by unfold stO; rw [if_pos h1]) hlt hok
      · have h1 : k0 = 2 := h1
        have h2 : a0 < 4 := h2
        rw [if_neg (show ¬ nI k0 = 1 by rw [h1]; decide), if_pos (show nI k0 = 2 by rw [h1]; rfl)]
        refine x_X12_worthAt_39 ⟨hM.1.1.1, ?_⟩
        rw [if_neg (show ¬ nI k0 = 1 by rw [h1]; decide), g11, g15, g16, cl_nI (show i < 2 ^ 31 by omega), sfgi h S F P (by decide) (by decide) (by decide), hc1, nI_div16 big, show (k0 + 16 * a0) / 16 = a0 by omega, cl_nI (show a0 < 2 ^ 31 by omega), cl_nI (show st.length < 2 ^ 31 by omega), fp_456]
        refine ⟨2200, hM.2.2.1, vp_nI (by omega) (by decide), 4, hM.2.2.2.2.1, vp_nI h2 (by decide), 64, c16 P, vp_nI hlt (by decide), ?_⟩
        rintro _ rfl
        rw [fp_u457]
        exact push _ (by unfold stO; rw [if_neg (by show ¬ k0 = 1; omega), if_pos h1]) hlt hok
    · have h1 : k0 = 3 := ho
      cases st with
      | nil => exact absurd hge (by decide)
      | cons x r =>
        have et : nI (x :: r).length - 1 = nI r.length := by rw [List.length_cons, ← nI_1]; simp [Int32.add_sub_cancel]
        rw [List.length_cons] at hl
        rw [if_neg (show ¬ nI k0 = 1 by rw [h1]; decide), if_neg (show ¬ nI k0 = 2 by rw [h1]; decide), if_pos (show nI k0 = 3 by rw [h1]; rfl), et, g16, cl_nI (show r.length < 2 ^ 31 by omega), fp_457, hs.1]
        refine ⟨64, c16 P, vp_nI (by omega) (by decide), ?_⟩
        have k : ∀ z', Q (evO F ops (stO F (k0, a0) (x :: r))) (s8 (fp h F z') S) := k
        have es : stO F (k0, a0) (x :: r) = (if x = 0 then 1 else 0) :: r := by
          unfold stO
          rw [if_neg (by show ¬ k0 = 1; omega), if_neg (by show ¬ k0 = 2; omega), if_pos h1]
        rw [es] at k
        have go : ∀ v, (if x = 0 then (1 : Int32) else 0) = v → Wp G (m_X12_worthAt, d + 1 + 1, 0, 0, fun v h1 => ∃ r, v = some (.int r) ∧ Q r h1) (0, 0) 4 [.ref 446, .null, .int (nI (x :: r).length), .int (nI i + 1), .null] [] (s8 (fp h F (up1 P r.length v)) S) := by
          intro v hv
          rw [hv] at k
          rw [nI_1]
          exact r_evalL hM ops (i + 1) (v :: r) (up1 P r.length v) (by omega) hc2 hok ⟨up1_at _ _ _, hs.2.up (Nat.le_refl _)⟩ hl k
        by_cases c0 : x = 0
        · rw [if_pos c0]
          rintro _ rfl
          rw [fp_u457]
          exact go 1 (if_pos c0)
        · rw [if_neg c0]
          rintro _ rfl
          rw [fp_u457]
          exact go 0 (if_neg c0)
    · have hk : 4 ≤ k0 ∧ k0 ≤ 10 := ho
      cases st with
      | nil => exact absurd hge (by decide)
      | cons y st =>
        cases st with
        | nil => exact absurd hge (by show ¬ 2 ≤ 1; decide)
        | cons x r =>
          have et : nI (y :: x :: r).length - 1 = nI (r.length + 1) := by rw [List.length_cons, List.length_cons, ← nI_1]; simp [Int32.add_sub_cancel]
          have et2 : nI (y :: x :: r).length + -1 = nI (r.length + 1) := by rw [← et, Int32.sub_eq_add_neg]
          have et3 : nI (r.length + 1) - 1 = nI r.length := by rw [← nI_1]; simp [Int32.add_sub_cancel]
          rw [List.length_cons, List.length_cons] at hl
          rw [if_neg (show ¬ nI k0 = 1 from fun q => by have := (nI_eq (show k0 < 2 ^ 31 by omega) (by decide)).mp (show nI k0 = nI 1 from q); omega), if_neg (show ¬ nI k0 = 2 from fun q => by have := (nI_eq (show k0 < 2 ^ 31 by omega) (by decide)).mp (show nI k0 = nI 2 from q); omega), if_neg (show ¬ nI k0 = 3 from fun q => by have := (nI_eq (show k0 < 2 ^ 31 by omega) (by decide)).mp (show nI k0 = nI 3 from q); omega), et2, et3, g16, cl_nI (show r.length < 2 ^ 31 by omega), cl_nI (show r.length + 1 < 2 ^ 31 by omega), fp_457, hs.2.1, show P (r.length + 1) = y from hs.1]
          refine ⟨64, c16 P, vp_nI (by omega) (by decide), vp_nI (by omega) (by decide), r_worked (d := d) hk ⟨64, c16 P, vp_nI (by omega) (by decide), ?_⟩⟩
          rintro _ rfl
          rw [fp_u457, nI_1]
          have ev : stO F (k0, a0) (y :: x :: r) = binO k0 x y :: r := by
            unfold stO
            rw [if_neg (by show ¬ k0 = 1; omega), if_neg (by show ¬ k0 = 2; omega), if_neg (by show ¬ k0 = 3; omega)]
          have k : ∀ z', Q (evO F ops (stO F (k0, a0) (y :: x :: r))) (s8 (fp h F z') S) := k
          rw [ev] at k
          exact r_evalL hM ops (i + 1) (binO k0 x y :: r) (up1 P r.length (binO k0 x y)) (by omega) hc2 (by rw [List.length_cons, List.length_cons] at hok; exact hok) ⟨up1_at _ _ _, hs.2.2.up (Nat.le_refl _)⟩ (by rw [List.length_cons]; omega) k
theorem evO_congr {F F' : Nat → Int32} (h : ∀ i, i < 4 → F i = F' i) : ∀ (ops : List (Nat × Nat)) (e : Nat) (st : List Int32), okO ops e → evO F ops st = evO F' ops st
  | [], _, _, _ => rfl
  | o :: ops, e, st, ho => by
    have es : stO F o st = stO F' o st := by
      unfold stO
      by_cases q : o.1 = 2
      · rcases ho with ⟨⟨a, b⟩ | ⟨a, b⟩, -⟩ | ⟨a, -⟩ | ⟨⟨a, b⟩, -⟩
        · omega
        · rw [h o.2 b]
        · omega
        · omega
      · rw [if_neg q, if_neg q]
    show evO F ops (stO F o st) = evO F' ops (stO F' o st)
    rw [es]
    rcases ho with ⟨-, -, ho⟩ | ⟨-, -, ho⟩ | ⟨-, -, ho⟩
    · exact evO_congr h ops _ _ ho
    · exact evO_congr h ops _ _ ho
    · exact evO_congr h ops _ _ ho
theorem clampO (v : Int32) : (1 ≤ v → v ≤ 99 → mx 1 (mn 99 v) = v) ∧ (1 ≤ v → ¬ v ≤ 99 → mx 1 (mn 99 v) = 99) ∧ (¬ 1 ≤ v → mx 1 (mn 99 v) = 1) := by
  have h1 : (1 : Int32).toInt = 1 := rfl
  have h2 : (99 : Int32).toInt = 99 := rfl
  unfold mx mn
  simp only [i_le, i_lt, h1, h2]
  refine ⟨fun a b => ?_, fun a b => ?_, fun a => ?_⟩
  · by_cases q : v.toInt < 99
    · rw [if_pos q]
      by_cases q2 : 1 < v.toInt
      · rw [if_pos q2]
      · rw [if_neg q2, i_eq, h1]; omega
    · rw [if_neg q, h2, if_pos (by decide), i_eq, h2]; omega
  · rw [if_neg (show ¬ v.toInt < 99 by omega), h2, if_pos (by decide)]
  · rw [if_pos (show v.toInt < 99 by omega), if_neg (show ¬ 1 < v.toInt by omega)]
/-- a LAW on both sides: empty (the law that is always there) or one that is told -/
theorem r_GRc {n from0 : Nat} {ops : List (Nat × Nat)} (hM : Ml h) (hl : ops.length = n) (hlaw : if n = 0 then gi h 452 4 = -1 else (gi h 452 4 = nI from0 ∧ from0 + ops.length < 2200 ∧ CR (gi h 453) from0 ops ∧ okO ops 0)) : GRc G (d + 3) h (tvO n ops (gi h 452 3)) := by
  intro S F P al rk tg Q' k
  refine ci_wp rfl (Nat.le_of_ble_eq_true rfl) rfl (x_X12_grows ?_)
  have g10 : ∀ F P, gp (s8 (fp h F P) S) 446 10 = 452 := fun _ _ => hM.1.2.2.2.1
  have g15 : ∀ F P, gp (s8 (fp h F P) S) 446 15 = 456 := fun _ _ => hM.2.2.2.1
  have c10 : h.1[452]? = some (1, 180) := hM.1.2.2.2.2
  have c15 : h.1[456]? = some (1, 4) := hM.2.2.2.2.1
  rw [g10, g15]
  refine ⟨hM.1.1.1, 180, c10, vp_nI (k := 3) (by decide) (by decide), 4, c15, vp_nI (k := 0) (by decide) (by decide), ?_⟩
  rintro _ rfl
  rw [fp_u456, g15]
  refine ⟨4, c15, vp_nI (k := 1) (by decide) (by decide), ?_⟩
  rintro _ rfl
  rw [fp_u456, g15]
  refine ⟨4, c15, vp_nI (k := 2) (by decide) (by decide), ?_⟩
  rintro _ rfl
  rw [fp_u456, g15]
  refine ⟨4, c15, vp_nI (k := 3) (by decide) (by decide), ?_⟩
  rintro _ rfl
  rw [fp_u456, g10]
  refine ⟨180, c10, vp_nI (k := 4) (by decide) (by decide), ?_⟩
  rw [sfgi h S _ _ (by decide) (by decide) (by decide), sfgi h S _ _ (by decide) (by decide) (by decide), show (4 : Int32).toNatClampNeg = 4 from rfl, show (3 : Int32).toNatClampNeg = 3 from rfl, show (2 : Int32).toNatClampNeg = 2 from rfl, show (1 : Int32).toNatClampNeg = 1 from rfl, show (0 : Int32).toNatClampNeg = 0 from rfl]
  have ef : ∀ i, i < 4 → up1 (up1 (up1 (up1 F 0 (nI rk)) 1 tg) 2 (gi h 452 3)) 3 al i = fc4 (nI rk) tg (gi h 452 3) al i := fun i hi => by
    have : i = 0 ∨ i = 1 ∨ i = 2 ∨ i = 3 := by omega
    rcases this with q | q | q | q <;> subst q <;> rfl
  by_cases c : n = 0
  · rw [if_pos c] at hlaw
    rw [hlaw, if_pos (by decide)]
    have kk : ∀ F' P', Q' (mx 1 (mn 99 (if gi h 452 3 < nI rk then ((3 * tg) + 1) / 2 else 1))) (s8 (fp h F' P') S) := fun F' P' => by
      have := k F' P'
      unfold tvO at this
      rw [if_pos c] at this
      exact this
    by_cases c2 : gi h 452 3 < nI rk
    · rw [if_pos c2]
      rw [if_pos c2] at kk
      obtain ⟨k1, k2, k3⟩ := clampO (((3 * tg) + 1) / 2)
      by_cases c3 : 1 ≤ ((3 * tg) + 1) / 2
      · rw [if_pos c3]
        by_cases c4 : ((3 * tg) + 1) / 2 ≤ 99
        · rw [if_pos c4]; rw [k1 c3 c4] at kk; exact ⟨_, rfl, kk _ _⟩
        · rw [if_neg c4]; rw [k2 c3 c4] at kk; exact ⟨_, rfl, kk _ _⟩
      · rw [if_neg c3]; rw [k3 c3] at kk; exact ⟨_, rfl, kk _ _⟩
    · rw [if_neg c2]
      rw [if_neg c2] at kk
      exact ⟨_, rfl, kk _ _⟩
  · rw [if_neg c] at hlaw
    obtain ⟨l1, l2, l3, l4⟩ := hlaw
    rw [l1, if_neg (nI_pos (by omega))]
    refine ci_wp rfl (Nat.le_of_ble_eq_true rfl) rfl (x_X12_worthAt ?_)
    refine r_evalL hM ops from0 [] P l2 l3 l4 trivial (by decide) (fun P' => ?_)
    rw [evO_congr ef ops _ _ l4]
    have kk : ∀ F' P', Q' (mx 1 (mn 99 (evO (fc4 (nI rk) tg (gi h 452 3) al) ops []))) (s8 (fp h F' P') S) := fun F' P' => by
      have := k F' P'
      unfold tvO at this
      rw [if_neg c] at this
      exact this
    obtain ⟨k1, k2, k3⟩ := clampO (evO (fc4 (nI rk) tg (gi h 452 3) al) ops [])
    by_cases c3 : 1 ≤ evO (fc4 (nI rk) tg (gi h 452 3) al) ops []
    · rw [if_pos c3]
      by_cases c4 : evO (fc4 (nI rk) tg (gi h 452 3) al) ops [] ≤ 99
      · rw [if_pos c4]; rw [k1 c3 c4] at kk; exact ⟨_, rfl, kk _ _⟩
      · rw [if_neg c4]; rw [k2 c3 c4] at kk; exact ⟨_, rfl, kk _ _⟩
    · rw [if_neg c3]; rw [k3 c3] at kk; exact ⟨_, rfl, kk _ _⟩
end RWO
