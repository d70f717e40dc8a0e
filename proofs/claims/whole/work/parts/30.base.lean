/-! WHAT THE SMALL METHODS DO: rows, names, numbers -/
abbrev sm (h : pm_H) (M : Nat → Nat → Int32) : pm_H := (h.1, M, h.2.2)
def rd (f : Nat → Int32) (n : Nat) (i : Int32) : Int32 := if 0 ≤ i.toInt ∧ i.toInt < n then f i.toInt.toNat else -1
def wr (M : Nat → Nat → Int32) (q n : Nat) (i v : Int32) : Nat → Nat → Int32 := if 0 ≤ i.toInt ∧ i.toInt < n then pm_u M q i.toInt.toNat v else M
def fillM (M : Nat → Nat → Int32) (q n : Nat) (v : Int32) : Nat → Nat → Int32 := fun a j => if a = q ∧ j < n then v else M a j
def cpM (M : Nat → Nat → Int32) (q q2 n : Nat) : Nat → Nat → Int32 := fun a j => if a = q ∧ j < n then M q2 j else M a j
theorem i_lt0 {x : Int32} : x < 0 ↔ x.toInt < 0 := by rw [Int32.lt_iff_toInt_lt]; rfl
theorem i_le {x y : Int32} : x ≤ y ↔ x.toInt ≤ y.toInt := Int32.le_iff_toInt_le
theorem i_lt {x y : Int32} : x < y ↔ x.toInt < y.toInt := Int32.lt_iff_toInt_lt
theorem i_eq {x y : Int32} : x = y ↔ x.toInt = y.toInt := Int32.toInt_inj.symm
theorem i_nat {n : Nat} (h : n < 2 ^ 31) : (Int32.ofNat n).toInt = n := nI_toInt h
theorem i_clamp (x : Int32) : x.toNatClampNeg = x.toInt.toNat := rfl
theorem rd_in {f : Nat → Int32} {n j : Nat} (hj : j < n) (hn : n < 2 ^ 31) : rd f n (nI j) = f j := by
  unfold rd
  rw [nI_toInt (by omega), if_pos ⟨by omega, by omega⟩]
  rfl
theorem rd_m1 (f : Nat → Int32) (n : Nat) : rd f n (-1) = -1 := by
  unfold rd
  rw [if_neg (fun q => absurd q.1 (by decide))]
theorem wr_in {M : Nat → Nat → Int32} {q n j : Nat} {v : Int32} (hj : j < n) (hn : n < 2 ^ 31) : wr M q n (nI j) v = pm_u M q j v := by
  unfold wr
  rw [nI_toInt (by omega), if_pos ⟨by omega, by omega⟩]
  rfl
theorem wr_ne {M : Nat → Nat → Int32} {q n a : Nat} {i v : Int32} (h : a ≠ q) : wr M q n i v a = M a := by
  unfold wr
  split
  · exact pm_u_ne _ _ _ h
  · rfl
/-- a Row's object at r, its array at q, of n places -/
def Ro (h : pm_H) (r q n : Nat) : Prop := h.1[r]? = some (0, 6) ∧ gp h r 0 = q ∧ h.1[q]? = some (1, n) ∧ n < 2 ^ 31
section BASE
variable {G : pm_G} {d : Nat} {h : pm_H}
theorem ci_wp {mi : pm_I} {av l : List Value} {Q : Int32 → pm_H → Prop} (hy : plainName mi.1.cls = true) (hn : (pm_ent av).length ≤ mi.2.2.1) (hl : pm_ent0 av mi.2.2.1 = l) (w : Wp G (mi, d, 0, 0, fun v h1 => ∃ r, v = some (.int r) ∧ Q r h1) (0, 0) 0 l [] h) : ci G d mi av h Q := ct_of hy hn (hl ▸ w)
theorem cv_wp {mi : pm_I} {av l : List Value} {Q : pm_H → Prop} (hy : plainName mi.1.cls = true) (hn : (pm_ent av).length ≤ mi.2.2.1) (hl : pm_ent0 av mi.2.2.1 = l) (w : Wp G (mi, d, 0, 0, fun v h1 => v = none ∧ Q h1) (0, 0) 0 l [] h) : cv G d mi av h Q := ct_of hy hn (hl ▸ w)
theorem cl_wp {mi : pm_I} {av l : List Value} {Q : Int64 → pm_H → Prop} (hy : plainName mi.1.cls = true) (hn : (pm_ent av).length ≤ mi.2.2.1) (hl : pm_ent0 av mi.2.2.1 = l) (w : Wp G (mi, d, 0, 0, fun v h1 => ∃ r, v = some (.long r) ∧ Q r h1) (0, 0) 0 l [] h) : cl G d mi av h Q := ct_of hy hn (hl ▸ w)
theorem cf_wp {mi : pm_I} {av l : List Value} {Q : UInt32 → pm_H → Prop} (hy : plainName mi.1.cls = true) (hn : (pm_ent av).length ≤ mi.2.2.1) (hl : pm_ent0 av mi.2.2.1 = l) (w : Wp G (mi, d, 0, 0, fun v h1 => ∃ r, v = some (.float r) ∧ Q r h1) (0, 0) 0 l [] h) : cf G d mi av h Q := ct_of hy hn (hl ▸ w)
theorem cp_wp {mi : pm_I} {av l : List Value} {Q : Nat → pm_H → Prop} (hy : plainName mi.1.cls = true) (hn : (pm_ent av).length ≤ mi.2.2.1) (hl : pm_ent0 av mi.2.2.1 = l) (w : Wp G (mi, d, 0, 0, fun v h1 => ∃ r, v = some (.ref r) ∧ Q r h1) (0, 0) 0 l [] h) : cp G d mi av h Q := ct_of hy hn (hl ▸ w)
/-- a walk up to n -/
theorem up_to {P : Nat → Prop} (n : Nat) (hs : ∀ k, k < n → P (k + 1) → P k) (he : P n) : P 0 := by
  have : ∀ j, j ≤ n → P (n - j) := by
    intro j
    induction j with
    | zero => intro _; exact he
    | succ j ih =>
      intro hj
      exact hs (n - (j + 1)) (by omega) (by rw [show n - (j + 1) + 1 = n - j by omega]; exact ih (by omega))
  have := this n (Nat.le_refl n)
  rwa [Nat.sub_self] at this
theorem vp_of {x : Int32} {n : Nat} (h0 : ¬ x < 0) (h1 : ¬ Int32.ofNat n ≤ x) (hn : n < 2 ^ 31) : vp_in x n := by
  rw [vp_in_iff]
  rw [i_lt0] at h0
  rw [i_le, i_nat hn] at h1
  omega
theorem row_at {r q n : Nat} {i : Int32} {Q : Int32 → pm_H → Prop} (hr : Ro h r q n) (w : Q (rd (gi h q) n i) h) : ci G (d + 1) m_X6_at [.ref r, .int i] h Q := by
  obtain ⟨h1, h2, h3, h4⟩ := hr
  refine ci_wp rfl (Nat.le_of_ble_eq_true rfl) rfl (x_X6_at ?_)
  split
  next c =>
    rw [i_lt0] at c
    refine ⟨_, rfl, ?_⟩
    rwa [rd, if_neg (by omega)] at w
  next c =>
    refine ⟨h1, n, by rw [h2]; exact h3, ?_⟩
    split
    next c2 =>
      rw [i_le, i_nat h4] at c2
      refine ⟨_, rfl, ?_⟩
      rwa [rd, if_neg (by omega)] at w
    next c2 =>
      refine ⟨vp_of c c2 h4, _, rfl, ?_⟩
      have := vp_in_iff.mp (vp_of c c2 h4)
      rw [rd, if_pos this] at w
      rw [h2]
      exact w
theorem row_set {r q n : Nat} {i v : Int32} {Q : pm_H → Prop} (hr : Ro h r q n) (w : Q (sm h (wr (gi h) q n i v))) : cv G (d + 1) m_X6_set [.ref r, .int i, .int v] h Q := by
  obtain ⟨h1, h2, h3, h4⟩ := hr
  refine cv_wp rfl (Nat.le_of_ble_eq_true rfl) rfl (x_X6_set ?_)
  split
  next c =>
    rw [i_lt0] at c
    refine ⟨rfl, ?_⟩
    rwa [wr, if_neg (by omega)] at w
  next c =>
    refine ⟨h1, n, by rw [h2]; exact h3, ?_⟩
    split
    next c2 =>
      rw [i_le, i_nat h4] at c2
      refine ⟨rfl, ?_⟩
      rwa [wr, if_neg (by omega)] at w
    next c2 =>
      refine ⟨vp_of c c2 h4, ?_⟩
      rintro _ rfl
      refine ⟨rfl, ?_⟩
      have := vp_in_iff.mp (vp_of c c2 h4)
      rw [wr, if_pos this] at w
      rw [h2]
      exact w
theorem nI_nlen {n k : Nat} (hk : k < n) (hn : n < 2 ^ 31) : ¬ Int32.ofNat n ≤ nI k := by
  rw [i_le, i_nat hn, nI_toInt (by omega)]; omega
theorem nI_len {n : Nat} : Int32.ofNat n ≤ nI n := by
  rw [i_le]; exact Int.le_refl _
theorem li_no (N : Int32) (n : Nat) {k : Nat} (hN : N = Int32.ofNat n) (hk : k < n) (hn : n < 2 ^ 31) : ¬ N ≤ nI k := by
  rw [hN]; exact nI_nlen hk hn
theorem li_yes (N : Int32) (n : Nat) (hN : N = Int32.ofNat n) : N ≤ nI n := by
  rw [hN]; exact nI_len
theorem nI_nm1 {n : Nat} (h : n < 2 ^ 31) : ¬ nI n = -1 := fun q => by
  have := congrArg Int32.toInt q
  rw [nI_toInt h] at this
  have e : (-1 : Int32).toInt = -1 := by decide
  omega
theorem vp_nI {n k : Nat} (hk : k < n) (hn : n < 2 ^ 31) : vp_in (nI k) n := vp_in_nI hk hn
theorem cl_nI {k : Nat} (hk : k < 2 ^ 31) : (nI k).toNatClampNeg = k := nI_clamp hk
theorem row_fill {r q n : Nat} {v : Int32} {Q : pm_H → Prop} (hr : Ro h r q n) (w : Q (sm h (fillM (gi h) q n v))) : cv G (d + 1) m_X6_fill [.ref r, .int v] h Q := by
  obtain ⟨h1, h2, h3, h4⟩ := hr
  refine cv_wp rfl (Nat.le_of_ble_eq_true rfl) rfl (x_X6_fill ?_)
  have key := up_to (P := fun k => Wp G (m_X6_fill, d + 1, 0, 0, fun v h1 => v = none ∧ Q h1) (0, 0) 2 [.ref r, .int v, .int (nI k)] [] (sm h (fillM (gi h) q k v))) n (fun k hk ih => ?_) ?_
  · have e : sm h (fillM (gi h) q 0 v) = h := by
      have : fillM (gi h) q 0 v = gi h := by funext a j; simp [fillM]
      rw [this]
    rw [e] at key
    exact key
  · refine x_X6_fill_2 ⟨h1, n, by rw [show gp (sm h (fillM (gi h) q k v)) r 0 = q from h2]; exact h3, ?_⟩
    rw [if_neg (nI_nlen hk h4)]
    refine ⟨vp_nI hk h4, ?_⟩
    rintro _ rfl
    rw [nI_1, cl_nI (by omega), show gp (sm h (fillM (gi h) q k v)) r 0 = q from h2]
    have e : si (sm h (fillM (gi h) q k v)) q k v = sm h (fillM (gi h) q (k + 1) v) := by
      have : pm_u (fillM (gi h) q k v) q k v = fillM (gi h) q (k + 1) v := by
        funext a j
        simp only [pm_u, fillM]
        by_cases ha : a = q
        · subst ha
          by_cases hj : j = k
          · subst hj; simp
          · simp only [hj, if_true, if_false, true_and]
            by_cases hjk : j < k
            · rw [if_pos hjk, if_pos (by omega)]
            · rw [if_neg hjk, if_neg (by omega)]
        · simp [ha]
      show (h.1, pm_u (fillM (gi h) q k v) q k v, h.2.2) = _
      rw [this]
    rw [e]
    exact ih
  · refine x_X6_fill_2 ⟨h1, n, by rw [show gp (sm h (fillM (gi h) q n v)) r 0 = q from h2]; exact h3, ?_⟩
    rw [if_pos nI_len]
    exact ⟨rfl, w⟩
theorem row_copy {r q n r2 q2 n2 : Nat} {Q : pm_H → Prop} (hr : Ro h r q n) (hr2 : Ro h r2 q2 n2) (hn : n2 = n) (w : Q (sm h (cpM (gi h) q q2 n))) : cv G (d + 1) m_X6_copyFrom [.ref r, .ref r2] h Q := by
  subst hn
  obtain ⟨h1, h2, h3, h4⟩ := hr
  obtain ⟨g1, g2, g3, -⟩ := hr2
  refine cv_wp rfl (Nat.le_of_ble_eq_true rfl) rfl (x_X6_copyFrom ?_)
  have key := up_to (P := fun k => Wp G (m_X6_copyFrom, d + 1, 0, 0, fun v h1 => v = none ∧ Q h1) (0, 0) 2 [.ref r, .ref r2, .int (nI k)] [] (sm h (cpM (gi h) q q2 k))) n2 (fun k hk ih => ?_) ?_
  · have e : sm h (cpM (gi h) q q2 0) = h := by
      have : cpM (gi h) q q2 0 = gi h := by funext a j; simp [cpM]
      rw [this]
    rw [e] at key
    exact key
  · have e1 : gp (sm h (cpM (gi h) q q2 k)) r 0 = q := h2
    have e2 : gp (sm h (cpM (gi h) q q2 k)) r2 0 = q2 := g2
    refine x_X6_copyFrom_2 ⟨h1, n2, by rw [e1]; exact h3, ?_⟩
    rw [if_neg (nI_nlen hk h4)]
    refine ⟨g1, n2, by rw [e2]; exact g3, ?_⟩
    rw [if_neg (nI_nlen hk h4)]
    refine ⟨vp_nI hk h4, vp_nI hk h4, ?_⟩
    rintro _ rfl
    rw [nI_1, cl_nI (by omega), e1, e2]
    have e : si (sm h (cpM (gi h) q q2 k)) q k (gi (sm h (cpM (gi h) q q2 k)) q2 k) = sm h (cpM (gi h) q q2 (k + 1)) := by
      have : pm_u (cpM (gi h) q q2 k) q k (cpM (gi h) q q2 k q2 k) = cpM (gi h) q q2 (k + 1) := by
        funext a j
        simp only [pm_u, cpM]
        by_cases ha : a = q
        · subst ha
          by_cases hj : j = k
          · subst hj; simp
          · simp only [hj, if_true, if_false, true_and]
            by_cases hjk : j < k
            · rw [if_pos hjk, if_pos (by omega)]
            · rw [if_neg hjk, if_neg (by omega)]
        · simp [ha]
      show (h.1, pm_u (cpM (gi h) q q2 k) q k (cpM (gi h) q q2 k q2 k), h.2.2) = _
      rw [this]
    rw [e]
    exact ih
  · have e1 : gp (sm h (cpM (gi h) q q2 n2)) r 0 = q := h2
    refine x_X6_copyFrom_2 ⟨h1, n2, by rw [e1]; exact h3, ?_⟩
    rw [if_pos nI_len]
    exact ⟨rfl, w⟩
/-- a contract of a method of the JDK's out of a walk -/
theorem ci_wpF {mi : pm_I} {av l : List Value} {Q : Int32 → pm_H → Prop} (hy : plainFor mi.1 = true) (hn : (pm_ent av).length ≤ mi.2.2.1) (hl : pm_ent0 av mi.2.2.1 = l) (w : Wp G (mi, d, 0, 0, fun v h1 => ∃ r, v = some (.int r) ∧ Q r h1) (0, 0) 0 l [] h) : ci G d mi av h Q := by
  intro hok ad
  refine va_MetF (cc := mi.2.1) (maxL := mi.2.2.1) (ret := mi.2.2.2) hy rfl ?_
  intro p e s m args below meth c s₁ B hml hv
  obtain ⟨rfl, hS, hT⟩ := hv
  have hts := atoms_spec (ws := pm_wsO mi) B.pre
  have hown : s.vm.findClass mi.1.cls = some m.cls := findClass_of_methodNamed B.named
  rw [lg_entry_eq]
  rw [← hl] at w
  exact w ad h.1.length ad p e s m _ below meth c s.heap _ [] ⟨B.exec, B.bytes, hml, hown, fun w hw => hts w (List.mem_cons_of_mem _ hw), B.returns, B.notSynchronized, (name_of_methodNamed B.named B.method).1, hT⟩ (Nat.le_refl _) (fun _ _ => rfl) hS va_S.rf (pm_ent_L ad av hn) (pm_ent_ok hok) (fun v hv => by cases hv)
theorem j_max {x y : Int32} {Q : Int32 → pm_H → Prop} (w : Q (if x < y then y else x) h) : ci G (d + 1) m_J9_max_7cf53 [.int x, .int y] h Q := by
  refine ci_wpF (by decide +kernel) (Nat.le_of_ble_eq_true rfl) rfl (x_J9_max_7cf53 ?_)
  split <;> rename_i c <;> simp only [c, if_true, if_false] at w <;> exact ⟨_, rfl, w⟩
theorem j_min {x y : Int32} {Q : Int32 → pm_H → Prop} (w : Q (if y < x then y else x) h) : ci G (d + 1) m_J9_min_7cf53 [.int x, .int y] h Q := by
  refine ci_wpF (by decide +kernel) (Nat.le_of_ble_eq_true rfl) rfl (x_J9_min_7cf53 ?_)
  split <;> rename_i c <;> simp only [c, if_true, if_false] at w <;> exact ⟨_, rfl, w⟩
theorem j_abs {x : Int32} {Q : Int32 → pm_H → Prop} (w : Q (if 0 ≤ x then x else -x) h) : ci G (d + 1) m_J9_abs_0f7a4 [.int x] h Q := by
  refine ci_wpF (by decide +kernel) (Nat.le_of_ble_eq_true rfl) rfl (x_J9_abs_0f7a4 ?_)
  split <;> rename_i c <;> simp only [c, if_true, if_false] at w <;> exact ⟨_, rfl, w⟩
end BASE
