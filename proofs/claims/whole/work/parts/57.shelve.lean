/-! SHELVES; all is told, copied, cleared */ -/
theorem FLs_30 {f : Nat} (hf : f ∈ FLs) : 30 ≤ f ∧ f + 31 ≤ 446 := by
  have : ∀ x ∈ FLs, 30 ≤ x ∧ x + 31 ≤ 446 := by decide
  exact this f hf
theorem La.lw {h : pm_H} (hL : La h) : Lw h := ⟨⟨hL.k (by decide +kernel), hL.p (by decide +kernel) (by omega), hL.k (by decide +kernel)⟩, hL.p (by decide +kernel) (by omega), hL.k (by decide +kernel)⟩
theorem La.sm {h : pm_H} (hL : La h) (M : Nat → Nat → Int32) : La (sm h M) := hL
def afree (sv pl : Nat → Int32) (x y : Int32) (k : Nat) : Bool := (List.range k).all fun u => !(decide (sv u = x) && decide (pl u = y))
theorem afree_s (sv pl : Nat → Int32) (x y : Int32) (k : Nat) : afree sv pl x y (k + 1) = (afree sv pl x y k && !(decide (sv k = x) && decide (pl k = y))) := by
  unfold afree
  rw [List.range_succ, List.all_append]
  simp
def freeF (sv pl : Nat → Int32) (x : Int32) : Nat → Option Nat
  | 0 => none
  | n + 1 => if afree sv pl x (nI (3 - n)) 20 = true then some (3 - n) else freeF sv pl x n
def freeP (sv pl : Nat → Int32) (x : Int32) : Option Nat := freeF sv pl x 4
def oI : Option Nat → Int32
  | none => -1
  | some t => nI t
section SHV
variable {G : pm_G} {d : Nat} {h : pm_H} {f : Nat}
theorem s_freePlace {Q : Int32 → pm_H → Prop} {sv pl : Nat → Int32} {x : Int32} (hF : Fa h f) (hv : ∀ u, u < 20 → gi h (f + 28) u = sv u ∧ gi h (f + 30) u = pl u) (k : Q (oI (freeP sv pl x)) h) : ci G (d + 2) m_X0_freePlace [.ref f, .int x] h Q := by
  refine ci_wp rfl (Nat.le_of_ble_eq_true rfl) rfl (x_X0_freePlace ?_)
  have all : ∀ n, n ≤ 4 → (oI (freeF sv pl x n) = oI (freeP sv pl x)) → Wp G (m_X0_freePlace, d + 2, 0, 0, fun v h1 => ∃ r, v = some (.int r) ∧ Q r h1) (0, 0) 2 [.ref f, .int x, .int (nI (4 - n)), .null, .null] [] h := by
    intro n
    induction n with
    | zero =>
      intro _ e
      refine x_X0_freePlace_2 ?_
      rw [if_pos (li_yes 4 4 rfl)]
      exact ⟨_, rfl, by rw [← e] at k; exact k⟩
    | succ n ih =>
      intro hn e
      refine x_X0_freePlace_2 ?_
      rw [if_neg (li_no 4 4 rfl (by omega) (by decide)), show 4 - (n + 1) = 3 - n by omega]
      have key := up_to (P := fun k => Wp G (m_X0_freePlace, d + 2, 0, 0, fun v h1 => ∃ r, v = some (.int r) ∧ Q r h1) (0, 0) 12 [.ref f, .int x, .int (nI (3 - n)), .int (if afree sv pl x (nI (3 - n)) k = true then 1 else 0), .int (nI k)] [] h) 20 (fun k hk ih2 => ?_) ?_
      · exact key
      · rw [afree_s] at ih2
        refine x_X0_freePlace_12 ?_
        rw [if_neg (li_no 20 20 rfl hk (by decide)), nI_1]
        by_cases c : afree sv pl x (nI (3 - n)) k = true
        · rw [if_pos c, if_neg (show ¬ (1 : Int32) = 0 by decide)]
          rw [c, Bool.true_and] at ih2
          refine ⟨hF.1, f_at14 hF ?_⟩
          rw [rd_in hk (by decide), (hv k hk).1]
          by_cases c1 : sv k = x
          · rw [if_pos c1]
            refine ⟨hF.1, f_at15 hF ?_⟩
            rw [rd_in hk (by decide), (hv k hk).2]
            by_cases c2 : pl k = nI (3 - n)
            · rw [if_pos c2]
              simpa [c1, c2] using ih2
            · rw [if_neg c2]
              simpa [c1, c2] using ih2
          · rw [if_neg c1]
            simpa [c1] using ih2
        · have c' : afree sv pl x (nI (3 - n)) k = false := by simpa using c
          have z : (if afree sv pl x (nI (3 - n)) k = true then (1 : Int32) else 0) = 0 := if_neg c
          rw [if_pos z]
          rw [c', Bool.false_and] at ih2
          exact ih2
      · refine x_X0_freePlace_12 ?_
        rw [if_pos (li_yes 20 20 rfl)]
        rw [freeF] at e
        by_cases c : afree sv pl x (nI (3 - n)) 20 = true
        · have z : ¬ (if afree sv pl x (nI (3 - n)) 20 = true then (1 : Int32) else 0) = 0 := by rw [if_pos c]; decide
          rw [if_neg z]
          rw [if_pos c] at e
          exact ⟨_, rfl, by rw [← e] at k; exact k⟩
        · have z : (if afree sv pl x (nI (3 - n)) 20 = true then (1 : Int32) else 0) = 0 := if_neg c
          rw [if_pos z]
          rw [if_neg c] at e
          rw [nI_1, show 3 - n + 1 = 4 - n by omega]
          exact ih (by omega) e
  exact all 4 (by omega) rfl
end SHV
/-- SHELVE; the answer, and how all stands then -/
def shelveA (lt : Nat → Nat → Bool) (kd skd : Nat → Int32) (A : AF) (a s : Nat) : Int32 × AF := match takeA lt A a with
  | none => (-1, A)
  | some (t, A') => match freeP A'.2.2.1 A'.2.2.2 (nI s) with
    | none => (0, A')
    | some p => if kd t = skd s then (1, A'.1, A'.2.1, up1 A'.2.2.1 t (nI s), up1 A'.2.2.2 t (nI p)) else (0, A')
theorem okA_shelve {lt : Nat → Nat → Bool} {kd skd : Nat → Int32} {A : AF} {w a s : Nat} (h : okA A w) (ha : a < 3) (hw : w ≤ 1000) : okA (shelveA lt kd skd A a s).2 w := by
  unfold shelveA
  split
  next => exact h
  next t A' e =>
    obtain ⟨h1, -⟩ := okA_take h ha hw e
    split
    · exact h1
    · split
      · exact ⟨h1.1, h1.2.1, h1.2.2⟩
      · exact h1
theorem freeP_lt {sv pl : Nat → Int32} {x : Int32} : ∀ {n p : Nat}, freeF sv pl x n = some p → p < 4
  | 0, _, e => by cases e
  | n + 1, p, e => by
    unfold freeF at e
    split at e
    · cases e; omega
    · exact freeP_lt e
section SHV2
variable {G : pm_G} {d : Nat} {h : pm_H} {f : Nat}
theorem s_shelveFrom {Q : Int32 → pm_H → Prop} {a s w : Nat} {A : AF} (hL : La h) (hf : f ∈ FLs) (ha : a < 3) (hs : s < 2) (hw : w ≤ 1000) (hA : okA A w) (hC : CF (gi h) f A)
    (k : ∀ M', CF M' f (shelveA (kLt (gf h 16)) (gi h 13) (gi h 11) A a s).2 → FX (gi h) M' f → Q (shelveA (kLt (gf h 16)) (gi h 13) (gi h 11) A a s).1 (sm h M')) : ci G (d + 5) m_X0_shelveFrom [.ref f, .int (nI a), .int (nI s)] h Q := by
  have hF := fa_of hL hf
  have hf30 := FLs_30 hf
  refine ci_wp rfl (Nat.le_of_ble_eq_true rfl) rfl (x_X0_shelveFrom ⟨hF.1, s_takeFrom (d := d) hF hL.lw.1 ha hw hA hC (fun e => ?_) (fun t A' e M hM hX => ?_)⟩)
  · unfold shelveA at k
    rw [e] at k
    rw [if_pos rfl]
    exact ⟨_, rfl, k (gi h) hC FX.rfl'⟩
  · unfold shelveA at k
    rw [e] at k
    obtain ⟨hA', ht, hta, -⟩ := okA_take hA ha hw e
    dsimp only at k
    rw [if_neg (nI_nm1 (by omega))]
    have hFm : ∀ M, Fa (sm h M) f := fun M => hF
    refine ⟨hF.1, s_freePlace (d := d + 2) (sv := A'.2.2.1) (pl := A'.2.2.2) (hFm M) (fun u hu => (hM.2 u hu).2) ?_⟩
    have e13 : M 13 = gi h 13 := hX 13 (fun q _ => by omega) (by decide)
    have e11 : M 11 = gi h 11 := hX 11 (fun q _ => by omega) (by decide)
    cases hp : freeP A'.2.2.1 A'.2.2.2 (nI s) with
    | none =>
      rw [hp] at k
      rw [show oI none = -1 from rfl, if_pos rfl]
      exact ⟨_, rfl, k M hM hX⟩
    | some p =>
      rw [hp] at k
      dsimp only at k
      have hp4 := freeP_lt hp
      have hLm : ∀ M, La (sm h M) := fun M => hL
      have g0 : gp (sm h M) f 0 = 3 := hF.2.1
      have g34 : gp (sm h M) 3 4 = 12 := hL.p (by decide +kernel) (by omega)
      have g33 : gp (sm h M) 3 3 = 10 := hL.p (by decide +kernel) (by omega)
      have r12 : Ro (sm h M) 12 13 20 := (hLm M).ro (by decide +kernel) (by decide +kernel) (by decide +kernel) (by decide)
      have r10 : Ro (sm h M) 10 11 2 := (hLm M).ro (by decide +kernel) (by decide +kernel) (by decide +kernel) (by decide)
      rw [show oI (some p) = nI p from rfl, if_neg (nI_nm1 (by omega)), g0, g34]
      refine ⟨hF.1, hL.lw.1.1, r12.1, row_at r12 ?_⟩
      rw [g0, g33]
      refine ⟨hF.1, hL.lw.1.1, r10.1, row_at r10 ?_⟩
      rw [rd_in ht (by decide), rd_in hs (by decide), show gi (sm h M) 13 = gi h 13 from e13, show gi (sm h M) 11 = gi h 11 from e11]
      by_cases c : gi h 13 t = gi h 11 s
      · rw [if_pos c]
        rw [if_pos c] at k
        refine ⟨hF.1, f_set14 (hFm M) ⟨hF.1, f_set15 (f := f) hF ?_⟩⟩
        dsimp only [gi, sm]
        rw [wr_in ht (by decide), wr_in ht (by decide)]
        have rows : ∀ q, q ≠ 14 → q ≠ 15 → pm_u (pm_u M (f + 28) t (nI s)) (f + 30) t (nI p) (f + 2 * q) = M (f + 2 * q) := fun q h1 h2 => by
          rw [pm_u_ne _ _ _ (by omega), pm_u_ne _ _ _ (by omega)]
        refine ⟨_, rfl, k _ ⟨⟨fun q hq => ⟨?_, ?_⟩, trivial, fun j hj hj2 => ?_, fun u hu hu2 => ?_⟩, fun u hu => ?_⟩ ((hX.trans (FX.u (q := 14) (by decide))).trans (FX.u (q := 15) (by decide)))⟩
        · exact (hM.1.1 q hq).1.rows fun q' hq' _ => rows q' (by omega) (by omega)
        · exact (congrFun (rows 10 (by decide) (by decide)) q).trans (hM.1.1 q hq).2
        · exact (congrFun (rows 1 (by decide) (by decide)) j).trans (hM.1.2.2.1 j hj hj2)
        · exact (congrFun (rows 12 (by decide) (by decide)) u).trans (hM.1.2.2.2 u hu hu2)
        · obtain ⟨z1, z2, z3⟩ := hM.2 u hu
          by_cases y : u = t
          · subst y; simp [pm_u, up1]; exact z1
          · simp [pm_u, up1, y]; exact ⟨z1, z2, z3⟩
      · rw [if_neg c]
        rw [if_neg c] at k
        exact ⟨_, rfl, k M hM hX⟩
end SHV2
