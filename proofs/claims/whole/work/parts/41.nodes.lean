/-! the class's steps at a node -/
/-- the QUEUE's KEYS -/
def Pk (h : pm_H) : Prop := h.1[3]? = some (0, 4) ∧ gp h 3 6 = 16 ∧ h.1[16]? = some (4, 20)
def kyf (k : Nat → UInt32) (i : Int32) : UInt32 := if 0 ≤ i.toInt ∧ i.toInt < 20 then k i.toInt.toNat else FP.fconst0
theorem kyf_in {k : Nat → UInt32} {j : Nat} (hj : j < 20) : kyf k (nI j) = k j := by
  unfold kyf
  rw [nI_toInt (by omega), if_pos ⟨by omega, by omega⟩]
  rfl
/-- one ITEM's KEY less than another one's, as the class sees it -/
def kLt (k : Nat → UInt32) (a b : Nat) : Bool := decide (FP.fcmp (k a) (k b) = some .lt)
theorem cmpG {o : Option Ordering} : 0 ≤ Op.cmpValue o .g ↔ ¬ o = some .lt := by
  cases o with
  | none => decide
  | some x => cases x <;> decide
theorem cmpG' {o : Option Ordering} : Op.cmpValue o .g < 0 ↔ o = some .lt := by
  cases o with
  | none => decide
  | some x => cases x <;> decide
section NOD
variable {G : pm_G} {d : Nat} {h : pm_H} {f : Nat}
theorem s_keyOf {i : Int32} {Q : UInt32 → pm_H → Prop} (hP : Pk h) (w : Q (kyf (gf h 16) i) h) : cf G (d + 1) m_X4_keyOf [.ref 3, .int i] h Q := by
  obtain ⟨h1, h2, h3⟩ := hP
  refine cf_wp rfl (Nat.le_of_ble_eq_true rfl) rfl (x_X4_keyOf ?_)
  split
  next c =>
    rw [i_lt0] at c
    refine ⟨_, rfl, ?_⟩
    rwa [kyf, if_neg (by omega)] at w
  next c =>
    refine ⟨h1, 20, by rw [h2]; exact h3, ?_⟩
    split
    next c2 =>
      rw [i_le, i_nat (by decide)] at c2
      refine ⟨_, rfl, ?_⟩
      rwa [kyf, if_neg (by omega)] at w
    next c2 =>
      refine ⟨vp_of c c2 (by decide), _, rfl, ?_⟩
      have := vp_in_iff.mp (vp_of c c2 (by decide))
      rw [kyf, if_pos (show 0 ≤ i.toInt ∧ i.toInt < 20 from this)] at w
      rw [h2]
      exact w
theorem s_isLeaf {i : Int32} {Q : Int32 → pm_H → Prop} (hF : Fa h f) (w : Q (if rd (gi h (f + 14)) 24 i = -1 ∧ rd (gi h (f + 16)) 24 i = -1 then 1 else 0) h) : ci G (d + 2) m_X0_isLeaf [.ref f, .int i] h Q := by
  refine ci_wp rfl (Nat.le_of_ble_eq_true rfl) rfl (x_X0_isLeaf ⟨hF.1, f_at7 hF ?_⟩)
  split
  next c =>
    refine ⟨hF.1, f_at8 hF ?_⟩
    split
    next c2 => rw [if_pos ⟨c, c2⟩] at w; exact ⟨_, rfl, w⟩
    next c2 => rw [if_neg (fun q => c2 q.2)] at w; exact ⟨_, rfl, w⟩
  next c => rw [if_neg (fun q => c q.1)] at w; exact ⟨_, rfl, w⟩
/-- the lesser CHILD: it is the first one then -/
theorem s_lesser {i : Int32} {Q : Int32 → pm_H → Prop} (hF : Fa h f) (hP : Pk h) {x y : Int32} (hx : rd (gi h (f + 14)) 24 i = x) (hy : rd (gi h (f + 16)) 24 i = y)
    (w : if ¬ x = -1 ∧ ¬ (¬ y = -1 ∧ FP.fcmp (kyf (gf h 16) (rd (gi h (f + 6)) 24 y)) (kyf (gf h 16) (rd (gi h (f + 6)) 24 x)) = some .lt) then Q x h else Q y (sm h (wr (wr (gi h) (f + 14) 24 i y) (f + 16) 24 i x))) : ci G (d + 2) m_X0_lesserChild [.ref f, .int i] h Q := by
  subst hx; subst hy
  refine ci_wp rfl (Nat.le_of_ble_eq_true rfl) rfl (x_X0_lesserChild ⟨hF.1, f_at7 hF ⟨hF.1, f_at8 hF ?_⟩⟩)
  have last : ∀ (c : rd (gi h (f + 14)) 24 i = -1 ∨ ¬ (¬ rd (gi h (f + 16)) 24 i = -1 ∧ FP.fcmp (kyf (gf h 16) (rd (gi h (f + 6)) 24 (rd (gi h (f + 16)) 24 i))) (kyf (gf h 16) (rd (gi h (f + 6)) 24 (rd (gi h (f + 14)) 24 i))) = some .lt)),
      Wp G (m_X0_lesserChild, d + 1 + 1, 0, 0, fun v h1 => ∃ r, v = some (.int r) ∧ Q r h1) (0, 0) 61 [.ref f, .int i, .int (rd (gi h (f + 14)) 24 i), .int (rd (gi h (f + 16)) 24 i), .null] [] h := by
    intro c
    refine x_X0_lesserChild_61 ?_
    split
    next c1 =>
      rw [if_neg (fun q => q.1 c1)] at w
      exact ⟨hF.1, f_set7 hF ⟨hF.1, f_set8 (f := f) hF ⟨_, rfl, w⟩⟩⟩
    next c1 =>
      rw [if_pos ⟨c1, c.resolve_left c1⟩] at w
      exact ⟨_, rfl, w⟩
  split
  next c => exact last (Or.inr fun q => q.1 c)
  next c =>
    refine ⟨hF.1, f_at3 hF ?_⟩
    rw [hF.2.1]
    refine ⟨hP.1, s_keyOf hP ⟨hF.1, f_at3 hF ?_⟩⟩
    rw [hF.2.1]
    refine ⟨hP.1, s_keyOf hP ?_⟩
    split
    next c2 =>
      rw [cmpG] at c2
      exact last (Or.inr fun q => c2 q.2)
    next c2 =>
      rw [cmpG, Classical.not_not] at c2
      rw [if_neg (fun q => q.2 ⟨c, c2⟩)] at w
      split
      · exact ⟨hF.1, f_set7 hF ⟨hF.1, f_set8 (f := f) hF ⟨_, rfl, w⟩⟩⟩
      · exact ⟨hF.1, f_set7 hF ⟨hF.1, f_set8 (f := f) hF ⟨_, rfl, w⟩⟩⟩
/-- items are told in which LIST they are now -/
def relM (M : Nat → Nat → Int32) (f : Nat) (v : Int32) (l : List Nat) : Nat → Nat → Int32 := fun a j => if a = f + 24 ∧ j ∈ l then v else M a j
theorem s_drawLoop {Q : pm_H → Prop} {c i : Int32} (hF : Fa h f) : ∀ (l : List Nat) (pre : List Nat) (k : Nat), LC (gi h (f + 22)) l → (∀ t ∈ l, t < 20) → k + l.length ≤ 20 →
    Wp G (m_X0_drawUp, d + 2, 0, 0, fun v h1 => v = none ∧ Q h1) (0, 0) 87 [.ref f, .int c, .int i, .null, .null] [] (sm h (relM (gi h) f i (pre ++ l))) →
    Wp G (m_X0_drawUp, d + 2, 0, 0, fun v h1 => v = none ∧ Q h1) (0, 0) 51 [.ref f, .int c, .int i, .int (hdI l), .int (nI k)] [] (sm h (relM (gi h) f i pre))
  | [], pre, k, _, _, hk, w => by
    refine x_X0_drawUp_51 ?_
    rw [List.append_nil] at w
    split
    · exact w
    · rw [if_pos (show hdI [] = -1 from rfl)]; exact w
  | t :: r, pre, k, ⟨h1, h2⟩, ht, hk, w => by
    have htl := ht t List.mem_cons_self
    simp only [List.length_cons] at hk
    refine x_X0_drawUp_51 ?_
    rw [if_neg (li_no 20 20 rfl (by omega) (by decide)), if_neg (show ¬ hdI (t :: r) = -1 from nI_nm1 (by omega))]
    have hF' : Fa (sm h (relM (gi h) f i pre)) f := hF
    refine ⟨hF.1, f_set12 hF' ?_⟩
    have e : sm (sm h (relM (gi h) f i pre)) (wr (gi (sm h (relM (gi h) f i pre))) (f + 24) 20 (nI t) i) = sm h (relM (gi h) f i (pre ++ [t])) := by
      have : wr (relM (gi h) f i pre) (f + 24) 20 (nI t) i = relM (gi h) f i (pre ++ [t]) := by
        rw [wr_in htl (by decide)]
        funext a j
        simp only [pm_u, relM, List.mem_append, List.mem_singleton]
        by_cases ha : a = f + 24
        · by_cases hj : j = t
          · simp [ha, hj]
          · simp [ha, hj]
        · simp [ha]
      show (h.1, wr (relM (gi h) f i pre) (f + 24) 20 (nI t) i, h.2.2) = _
      rw [this]
    rw [show (hdI (t :: r)) = nI t from rfl, e]
    refine ⟨hF.1, f_at11 (h := sm h (relM (gi h) f i (pre ++ [t]))) hF ?_⟩
    have e2 : rd (gi (sm h (relM (gi h) f i (pre ++ [t]))) (f + 22)) 20 (nI t) = hdI r := by
      rw [rd_in htl (by decide)]
      show relM (gi h) f i (pre ++ [t]) (f + 22) t = _
      unfold relM
      rw [if_neg (fun q => absurd q.1 (by omega))]
      exact h1
    rw [e2, nI_1]
    refine s_drawLoop hF r (pre ++ [t]) (k + 1) h2 (fun u hu => ht u (List.mem_cons_of_mem _ hu)) (by omega) ?_
    rw [List.append_assoc]
    exact w
end NOD
