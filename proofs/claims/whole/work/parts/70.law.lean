/-! A LAW, worked out -/
def cO (o : Nat × Nat) : Int32 := if o.1 = 1 then nI o.2 else if o.1 = 2 then -2 - nI o.2 else if o.1 = 3 then -7 else if o.1 = 4 then -12 else if o.1 = 5 then -13 else if o.1 = 6 then -14 else if o.1 = 7 then -10 else if o.1 = 8 then -11 else if o.1 = 9 then -8 else -9
def binO (k : Nat) (a b : Int32) : Int32 := if k = 4 then a + b else if k = 5 then a - b else if k = 6 then a * b else if k = 7 then (if a < b then 1 else 0) else if k = 8 then (if a = b then 1 else 0) else if k = 9 then (if a = 0 then 0 else if b = 0 then 0 else 1) else (if a = 0 then (if b = 0 then 0 else 1) else 1)
def stO (fc : Nat → Int32) (o : Nat × Nat) (st : List Int32) : List Int32 :=
  if o.1 = 1 then nI o.2 :: st else if o.1 = 2 then fc o.2 :: st else if o.1 = 3 then (match st with
    | x :: r => (if x = 0 then 1 else 0) :: r
    | [] => []) else (match st with
    | y :: x :: r => binO o.1 x y :: r
    | r => r)
def evO (fc : Nat → Int32) : List (Nat × Nat) → List Int32 → Int32
  | [], st => st.headD 0
  | o :: r, st => evO fc r (stO fc o st)
def okO : List (Nat × Nat) → Nat → Prop
  | [], d => d = 1
  | o :: r, d => (((o.1 = 1 ∧ o.2 < 10000) ∨ (o.1 = 2 ∧ o.2 < 4)) ∧ d < 64 ∧ okO r (d + 1)) ∨ (o.1 = 3 ∧ 1 ≤ d ∧ okO r d) ∨ ((4 ≤ o.1 ∧ o.1 ≤ 10) ∧ 2 ≤ d ∧ okO r (d - 1))
def SK (z : Nat → Int32) : List Int32 → Prop
  | [] => True
  | x :: r => z r.length = x ∧ SK z r
theorem SK.up {z : Nat → Int32} {v : Int32} {k : Nat} : ∀ {st : List Int32}, SK z st → st.length ≤ k → SK (up1 z k v) st
  | [], _, _ => trivial
  | x :: r, ⟨h1, h2⟩, hk => by
    rw [List.length_cons] at hk
    exact ⟨(up1_ne _ _ (by omega)).trans h1, h2.up (by omega)⟩
def CO (c : Nat → Int32) : Nat → List (Nat × Nat) → Prop
  | _, [] => True
  | i, o :: r => c i = cO o ∧ CO c (i + 1) r
theorem rz_rz {M : Nat → Nat → Int32} {z z' : Nat → Int32} : rz (rz M z) z' = rz M z' := by
  funext b; unfold rz; split <;> rfl
theorem rz_u {M : Nat → Nat → Int32} {z : Nat → Int32} {k : Nat} {v : Int32} : pm_u (rz M z) 21 k v = rz M (up1 z k v) := by
  funext b
  by_cases h : b = 21
  · subst h
    rw [pm_u_at]
    unfold rz pm_ui up1
    rw [if_pos rfl, if_pos rfl]
  · rw [pm_u_ne _ _ _ h, rz_ne h, rz_ne h]
theorem rz_at {M : Nat → Nat → Int32} {z : Nat → Int32} : rz M z 21 = z := if_pos rfl
section LAW
variable {G : pm_G} {d : Nat} {h : pm_H}
theorem l_joined {k a : Nat} {x y : Int32} {Q : Int32 → pm_H → Prop} (hk : 4 ≤ k ∧ k ≤ 10) (w : Q (binO k x y) h) : ci G (d + 1) m_X1_joined [.int (cO (k, a)), .int x, .int y] h Q := by
  refine ci_wp rfl (Nat.le_of_ble_eq_true rfl) rfl (x_X1_joined ?_)
  have hc : k = 4 ∨ k = 5 ∨ k = 6 ∨ k = 7 ∨ k = 8 ∨ k = 9 ∨ k = 10 := by omega
  rcases hc with e | e | e | e | e | e | e <;> subst e
  · rw [show cO (4, a) = -12 from rfl, if_neg (by decide), if_pos rfl]
    exact ⟨_, rfl, w⟩
  · rw [show cO (5, a) = -13 from rfl, if_pos rfl]
    exact ⟨_, rfl, w⟩
  · rw [show cO (6, a) = -14 from rfl, if_neg (by decide), if_neg (by decide), if_neg (by decide), if_neg (by decide), if_neg (by decide), if_neg (by decide)]
    exact ⟨_, rfl, w⟩
  · rw [show cO (7, a) = -10 from rfl, if_neg (by decide), if_neg (by decide), if_neg (by decide), if_pos rfl]
    have w : Q (if x < y then 1 else 0) h := w
    by_cases c : x < y
    · rw [if_neg (Int32.not_le.mpr c)]; rw [if_pos c] at w; exact ⟨_, rfl, w⟩
    · rw [if_pos (Int32.not_lt.mp c)]; rw [if_neg c] at w; exact ⟨_, rfl, w⟩
  · rw [show cO (8, a) = -11 from rfl, if_neg (by decide), if_neg (by decide), if_pos rfl]
    have w : Q (if x = y then 1 else 0) h := w
    by_cases c : x = y
    · rw [if_pos c]; rw [if_pos c] at w; exact ⟨_, rfl, w⟩
    · rw [if_neg c]; rw [if_neg c] at w; exact ⟨_, rfl, w⟩
  · rw [show cO (9, a) = -8 from rfl, if_neg (by decide), if_neg (by decide), if_neg (by decide), if_neg (by decide), if_neg (by decide), if_pos rfl]
    have w : Q (if x = 0 then 0 else if y = 0 then 0 else 1) h := w
    by_cases c : x = 0
    · rw [if_pos c]; rw [if_pos c] at w; exact ⟨_, rfl, w⟩
    · rw [if_neg c]; rw [if_neg c] at w
      by_cases c2 : y = 0
      · rw [if_pos c2]; rw [if_pos c2] at w; exact ⟨_, rfl, w⟩
      · rw [if_neg c2]; rw [if_neg c2] at w; exact ⟨_, rfl, w⟩
  · rw [show cO (10, a) = -9 from rfl, if_neg (by decide), if_neg (by decide), if_neg (by decide), if_neg (by decide), if_pos rfl]
    have w : Q (if x = 0 then (if y = 0 then 0 else 1) else 1) h := w
    by_cases c : x = 0
    · rw [if_pos c]; rw [if_pos c] at w
      by_cases c2 : y = 0
      · rw [if_pos c2]; rw [if_pos c2] at w; exact ⟨_, rfl, w⟩
      · rw [if_neg c2]; rw [if_neg c2] at w; exact ⟨_, rfl, w⟩
    · rw [if_neg c]; rw [if_neg c] at w; exact ⟨_, rfl, w⟩
theorem cO2 {a0 : Nat} (h : a0 < 4) : ¬ cO (2, a0) = -7 ∧ (-8 : Int32) < cO (2, a0) ∧ cO (2, a0) < 0 := by
  have : ∀ x, x < 4 → ¬ cO (2, x) = -7 ∧ (-8 : Int32) < cO (2, x) ∧ cO (2, x) < 0 := by decide +kernel
  exact this a0 h
theorem cO2_eq {a0 : Nat} (h : a0 < 4) (v : Int32) (n : Nat) (e : (v = -2 ∧ n = 0) ∨ (v = -3 ∧ n = 1) ∨ (v = -4 ∧ n = 2)) : (cO (2, a0) = v) = (a0 = n) := by
  have : ∀ x, x < 4 → ((cO (2, x) = -2 ↔ x = 0) ∧ (cO (2, x) = -3 ↔ x = 1) ∧ (cO (2, x) = -4 ↔ x = 2)) := by decide +kernel
  obtain ⟨y1, y2, y3⟩ := this a0 h
  rcases e with ⟨rfl, rfl⟩ | ⟨rfl, rfl⟩ | ⟨rfl, rfl⟩
  · exact propext y1
  · exact propext y2
  · exact propext y3
/-- the law's rows -/
def Lr (h : pm_H) : Prop := h.1[17]? = some (0, 1) ∧ gp h 17 0 = 18 ∧ Ro h 18 19 1000 ∧ gp h 17 2 = 20 ∧ Ro h 20 21 64
theorem La.lr (hL : La h) : Lr h := ⟨hL.k (by decide +kernel), hL.p (by decide +kernel) (by omega), hL.ro (by decide +kernel) (by decide +kernel) (by decide +kernel) (by decide), hL.p (by decide +kernel) (by omega), hL.ro (by decide +kernel) (by decide +kernel) (by decide +kernel) (by decide)⟩
def fc4 (a b c e : Int32) (i : Nat) : Int32 := if i = 0 then a else if i = 1 then b else if i = 2 then c else e
set_option maxRecDepth 20000 in
theorem l_eval {M : Nat → Nat → Int32} {a b c e : Int32} {n : Nat} {Q : Int32 → pm_H → Prop} (hR : Lr h) (hn : M 17 1 = nI n) (hn2 : n ≤ 1000) : ∀ (ops : List (Nat × Nat)) (i : Nat) (st : List Int32) (z : Nat → Int32), i + ops.length = n → CO (M 19) i ops → okO ops st.length → SK z st → st.length ≤ 64 →
    (∀ z', Q (evO (fc4 a b c e) ops st) (sm h (rz M z'))) →
    Wp G (m_X1_workedOut, d + 2, 0, 0, fun v h1 => ∃ r, v = some (.int r) ∧ Q r h1) (0, 0) 6 [.ref 17, .int a, .int b, .int c, .int e, .int (nI st.length), .int (nI i), .null, .null] [] (sm h (rz M z))
  | [], i, st, z, hi, hc, ho, hs, hl, k => by
    have hi : i = n := hi
    subst hi
    have e1 : gi (sm h (rz M z)) 17 1 = nI i := (congrFun (rz_ne (M := M) (z := z) (b := 17) (by decide)) 1).trans hn
    have g2 : gp (sm h (rz M z)) 17 2 = 20 := hR.2.2.2.1
    have r2 : Ro (sm h (rz M z)) 20 21 64 := hR.2.2.2.2
    refine x_X1_workedOut_6 ?_
    rw [e1, g2, if_pos (show nI i ≤ nI i from Int32.le_refl _)]
    refine ⟨hR.1, r2.1, row_at r2 ?_⟩
    have e0 : rd (gi (sm h (rz M z)) 21) 64 0 = z 0 := (rd_in (j := 0) (by decide) (by decide)).trans (congrFun (rz_at (M := M) (z := z)) 0)
    rw [e0]
    cases st with
    | nil => cases ho
    | cons x r =>
      have hr : r.length = 0 := by have : (x :: r).length = 1 := ho; rw [List.length_cons] at this; omega
      have h0 := hs.1
      rw [hr] at h0
      rw [h0]
      exact ⟨_, rfl, k z⟩
  | o :: ops, i, st, z, hi, ⟨hc1, hc2⟩, ho, hs, hl, k => by
    rw [List.length_cons] at hi
    have e1 : gi (sm h (rz M z)) 17 1 = nI n := (congrFun (rz_ne (M := M) (z := z) (b := 17) (by decide)) 1).trans hn
    have g0 : ∀ z, gp (sm h (rz M z)) 17 0 = 18 := fun _ => hR.2.1
    have g2 : ∀ z, gp (sm h (rz M z)) 17 2 = 20 := fun _ => hR.2.2.2.1
    have r0 : ∀ z, Ro (sm h (rz M z)) 18 19 1000 := fun _ => hR.2.2.1
    have r2 : ∀ z, Ro (sm h (rz M z)) 20 21 64 := fun _ => hR.2.2.2.2
    refine x_X1_workedOut_6 ?_
    rw [e1, g0, if_neg (show ¬ nI n ≤ nI i from nI_nlen (by omega) (by omega))]
    refine ⟨hR.1, (r0 z).1, row_at (r0 z) ?_⟩
    rw [rd_in (by omega) (by decide), show gi (sm h (rz M z)) 19 i = cO o from (congrFun (rz_ne (M := M) (z := z) (b := 19) (by decide)) i).trans hc1, g2]
    refine ⟨hR.1, (r2 z).1, row_at (r2 z) ?_⟩
    rw [show gi (sm h (rz M z)) 21 = z from rz_at (M := M) (z := z), g2]
    obtain ⟨k0, a0⟩ := o
    -- what is set on the stack
    have set : ∀ {q : Nat} {v : Int32} {Q' : pm_H → Prop}, q < 64 → Q' (sm h (rz M (up1 z q v))) → cv G (d + 1) m_X6_set [.ref 20, .int (nI q), .int v] (sm h (rz M z)) Q' := by
      intro q v Q' hq hQ
      refine row_set (r2 z) ?_
      rw [wr_in hq (by decide), show gi (sm h (rz M z)) = rz M z from rfl, rz_u]
      exact hQ
    have push : ∀ v, stO (fc4 a b c e) (k0, a0) st = v :: st → st.length < 64 → okO ops (st.length + 1) → cv G (d + 1) m_X6_set [.ref 20, .int (nI st.length), .int v] (sm h (rz M z)) fun h1 => Wp G (m_X1_workedOut, d + 1 + 1, 0, 0, fun v h1 => ∃ r, v = some (.int r) ∧ Q r h1) (0, 0) 6 [.ref 17, .int a, .int b, .int c, .int e, .int (nI st.length + 1), .int (nI i + 1), .null, .null] [] h1 := by
      intro v hv hlt hok
      refine set hlt ?_
      rw [nI_1, nI_1]
      have k : ∀ z', Q (evO (fc4 a b c e) ops (stO (fc4 a b c e) (k0, a0) st)) (sm h (rz M z')) := k
      rw [hv] at k
      exact l_eval hR hn hn2 ops (i + 1) (v :: st) (up1 z st.length v) (by omega) hc2 hok ⟨up1_at _ _ _, hs.up (Nat.le_refl _)⟩ hlt k
    rcases ho with ⟨ho, hlt, hok⟩ | ⟨ho, hge, hok⟩ | ⟨ho, hge, hok⟩
    · rcases ho with ⟨h1, h2⟩ | ⟨h1, h2⟩
      · have h1 : k0 = 1 := h1
        subst h1
        have h2 : a0 < 10000 := h2
        have ec : cO (1, a0) = nI a0 := rfl
        have hp := nI_0le (n := a0) (by omega)
        have hpp : ∀ y : Int32, y.toInt < 0 → ¬ nI a0 = y := fun y hy q => by
          rw [i_le, q] at hp
          have : (0 : Int32).toInt = 0 := rfl
          omega
        rw [ec, if_neg (hpp (-7) (by decide)), if_pos (by rw [i_lt, nI_toInt (by omega)]; have : (-8 : Int32).toInt = -8 := by decide
                                                          omega), if_neg (Int32.not_lt.mpr hp)]
        exact ⟨hR.1, (r2 z).1, push _ rfl hlt hok⟩
      · have h1 : k0 = 2 := h1
        subst h1
        have h2 : a0 < 4 := h2
        have fact : ∀ v, fc4 a b c e a0 = v → cv G (d + 1) m_X6_set [.ref 20, .int (nI st.length), .int v] (sm h (rz M z)) fun h1 => Wp G (m_X1_workedOut, d + 1 + 1, 0, 0, fun v h1 => ∃ r, v = some (.int r) ∧ Q r h1) (0, 0) 6 [.ref 17, .int a, .int b, .int c, .int e, .int (nI st.length + 1), .int (nI i + 1), .null, .null] [] h1 := fun v hv => push v (by show fc4 a b c e a0 :: st = v :: st; rw [hv]) hlt hok
        clear push k set
        have ff := cO2 h2
        have y0 := cO2_eq h2 (-2) 0 (Or.inl ⟨rfl, rfl⟩)
        have y1 := cO2_eq h2 (-3) 1 (Or.inr (Or.inl ⟨rfl, rfl⟩))
        have y2 := cO2_eq h2 (-4) 2 (Or.inr (Or.inr ⟨rfl, rfl⟩))
        clear hc1
        generalize cO (2, a0) = v at ff y0 y1 y2 ⊢
        obtain ⟨c1, c2, c3⟩ := ff
        rw [if_neg c1, if_pos c2, if_pos c3]
        refine ⟨hR.1, ?_⟩
        simp only [y0, y1, y2]
        split
        next q => exact ⟨(r2 z).1, fact a (by rw [q]; rfl)⟩
        next q =>
          split
          next q1 => exact ⟨(r2 z).1, fact b (by rw [q1]; rfl)⟩
          next q1 =>
            split
            next q2 => exact ⟨(r2 z).1, fact c (by rw [q2]; rfl)⟩
            next q2 => exact ⟨(r2 z).1, fact e (by unfold fc4; rw [if_neg q, if_neg q1, if_neg q2])⟩
    · have h1 : k0 = 3 := ho
      subst h1
      cases st with
      | nil => exact absurd hge (by decide)
      | cons x r =>
        have et : nI (x :: r).length - 1 = nI r.length := by rw [List.length_cons, ← nI_1]; simp [Int32.add_sub_cancel]
        rw [List.length_cons] at hl
        rw [show cO (3, a0) = -7 from rfl, if_pos rfl, et, rd_in (by omega) (by decide), hs.1]
        refine ⟨hR.1, ?_⟩
        have k : ∀ z', Q (evO (fc4 a b c e) ops ((if x = 0 then 1 else 0) :: r)) (sm h (rz M z')) := k
        have go : ∀ v, (if x = 0 then (1 : Int32) else 0) = v → Wp G (m_X1_workedOut, d + 1 + 1, 0, 0, fun v h1 => ∃ r, v = some (.int r) ∧ Q r h1) (0, 0) 6 [.ref 17, .int a, .int b, .int c, .int e, .int (nI (x :: r).length), .int (nI i + 1), .null, .null] [] (sm h (rz M (up1 z r.length v))) := by
          intro v hv
          rw [hv] at k
          rw [nI_1]
          exact l_eval hR hn hn2 ops (i + 1) (v :: r) (up1 z r.length v) (by omega) hc2 hok ⟨up1_at _ _ _, hs.2.up (Nat.le_refl _)⟩ hl k
        by_cases c0 : x = 0
        · rw [if_pos c0]
          exact ⟨(r2 z).1, set (by omega) (go 1 (if_pos c0))⟩
        · rw [if_neg c0]
          exact ⟨(r2 z).1, set (by omega) (go 0 (if_neg c0))⟩
    · have hk : 4 ≤ k0 ∧ k0 ≤ 10 := ho
      cases st with
      | nil => exact absurd hge (by decide)
      | cons y st =>
        cases st with
        | nil => exact absurd hge (by show ¬ 2 ≤ 1; decide)
        | cons x r =>
          have et : nI (y :: x :: r).length - 1 = nI (r.length + 1) := by rw [List.length_cons, List.length_cons, ← nI_1]; simp [Int32.add_sub_cancel]
          have et2 : nI (y :: x :: r).length + -1 = nI (r.length + 1) := by rw [← et, Int32.sub_eq_add_neg]
          have et3 : nI (r.length + 1) - 1 = nI r.length := by rw [← nI_1]; simp [Int32.add_sub_cancel]
          rw [List.length_cons, List.length_cons] at hl
          have hneg : ¬ cO (k0, a0) = -7 ∧ ¬ (-8 : Int32) < cO (k0, a0) := by
            have hc : k0 = 4 ∨ k0 = 5 ∨ k0 = 6 ∨ k0 = 7 ∨ k0 = 8 ∨ k0 = 9 ∨ k0 = 10 := by omega
            rcases hc with q | q | q | q | q | q | q <;> subst q
            · exact (by decide : ¬ (-12 : Int32) = -7 ∧ ¬ (-8 : Int32) < -12)
            · exact (by decide : ¬ (-13 : Int32) = -7 ∧ ¬ (-8 : Int32) < -13)
            · exact (by decide : ¬ (-14 : Int32) = -7 ∧ ¬ (-8 : Int32) < -14)
            · exact (by decide : ¬ (-10 : Int32) = -7 ∧ ¬ (-8 : Int32) < -10)
            · exact (by decide : ¬ (-11 : Int32) = -7 ∧ ¬ (-8 : Int32) < -11)
            · exact (by decide : ¬ (-8 : Int32) = -7 ∧ ¬ (-8 : Int32) < -8)
            · exact (by decide : ¬ (-9 : Int32) = -7 ∧ ¬ (-8 : Int32) < -9)
          rw [if_neg hneg.1, if_neg hneg.2, et2, et3]
          refine ⟨hR.1, (r2 z).1, row_at (r2 z) ?_⟩
          rw [show gi (sm h (rz M z)) 21 = z from rz_at (M := M) (z := z), rd_in (by omega) (by decide), hs.2.1, et, rd_in (by omega) (by decide), show z (r.length + 1) = y from hs.1]
          refine l_joined (d := d) hk ⟨(r2 z).1, set (by omega) ?_⟩
          have ev : stO (fc4 a b c e) (k0, a0) (y :: x :: r) = binO k0 x y :: r := by
            unfold stO
            rw [if_neg (by show ¬ k0 = 1; omega), if_neg (by show ¬ k0 = 2; omega), if_neg (by show ¬ k0 = 3; omega)]
          have k : ∀ z', Q (evO (fc4 a b c e) ops (stO (fc4 a b c e) (k0, a0) (y :: x :: r))) (sm h (rz M z')) := k
          rw [ev] at k
          rw [nI_1]
          exact l_eval hR hn hn2 ops (i + 1) (binO k0 x y :: r) (up1 z r.length (binO k0 x y)) (by omega) hc2 (by rw [List.length_cons, List.length_cons] at hok; exact hok) ⟨up1_at _ _ _, hs.2.2.up (Nat.le_refl _)⟩ (by rw [List.length_cons]; omega) k
end LAW
