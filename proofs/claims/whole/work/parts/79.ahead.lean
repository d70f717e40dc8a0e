/-! the class: LISTED, DEPTH, who stands ahead, SELECT -/
def tr_dp : Tr → Nat → Option Nat
  | .leaf, _ => none
  | .inner _ k _ l r, j => if k.1 = j then some 0 else match tr_dp l j with
    | some n => some (n + 1)
    | none => match tr_dp r j with
      | some n => some (n + 1)
      | none => none
theorem tr_dp_le : ∀ {T : Tr} {j m : Nat}, TR T → tr_dp T j = some m → m ≤ tr_rk T
  | .leaf, _, _, _, h => by cases h
  | .inner _ k _ l r, j, m, ⟨t1, t2, t3, t4⟩, h => by
    rw [tr_dp] at h
    split at h
    · cases h; exact Nat.zero_le _
    · split at h
      next n e =>
        cases h
        have := tr_dp_le t3 e
        rcases t1 with y | y
        · rw [isL_leaf y] at e; cases e
        · show n + 1 ≤ n_rk k; omega
      next e =>
        split at h
        next n e =>
          cases h
          have := tr_dp_le t4 e
          rcases t2 with y | y
          · rw [isL_leaf y] at e; cases e
          · show n + 1 ≤ n_rk k; omega
        next e => cases h
theorem tr_dp_some : ∀ {T : Tr} {j : Nat}, j ∈ tr_ids T → ∃ m, tr_dp T j = some m
  | .leaf, _, h => by cases h
  | .inner _ k _ l r, j, h => by
    rw [tr_dp]
    by_cases c : k.1 = j
    · exact ⟨0, if_pos c⟩
    · rw [if_neg c]
      rcases List.mem_cons.mp h with q | q
      · exact absurd q.symm c
      · rcases List.mem_append.mp q with q | q
        · obtain ⟨m, e⟩ := tr_dp_some q
          rw [e]; exact ⟨_, rfl⟩
        · obtain ⟨m, e⟩ := tr_dp_some q
          rw [e]
          cases tr_dp l j with
          | none => exact ⟨_, rfl⟩
          | some x => exact ⟨_, rfl⟩
theorem tr_dp_none : ∀ {T : Tr} {j : Nat}, j ∉ tr_ids T → tr_dp T j = none
  | .leaf, _, _ => rfl
  | .inner _ k _ l r, j, h => by
    rw [tr_dp, if_neg (fun (c : k.1 = j) => h (List.mem_cons.mpr (Or.inl c.symm))), tr_dp_none (fun c => h (List.mem_cons_of_mem _ (List.mem_append_left _ c))), tr_dp_none (fun c => h (List.mem_cons_of_mem _ (List.mem_append_right _ c)))]
theorem cmpL0 {o : Option Ordering} : Op.cmpValue o .l = 0 ↔ o = some .eq := by
  cases o with
  | none => decide
  | some x => cases x <;> decide
/-- whether one ITEM stands ahead of another one by KEYS, as the class sees it -/
def ahC (k : Nat → UInt32) (t o : Nat) : Bool := kLt k t o || (decide (FP.fcmp (k t) (k o) = some .eq) && decide (t < o))
/-- the first one, the last one -/
def fnd (p : Nat → Bool) : Nat → Option Nat
  | 0 => none
  | n + 1 => match fnd p n with
    | some x => some x
    | none => if p n = true then some n else none
def lst (p : Nat → Bool) : Nat → Option Nat
  | 0 => none
  | n + 1 => if p n = true then some n else lst p n
theorem fnd_stay {p : Nat → Bool} {x n : Nat} (h : fnd p n = some x) : ∀ k, fnd p (n + k) = some x
  | 0 => h
  | k + 1 => by
    rw [show n + (k + 1) = (n + k) + 1 from rfl, fnd, fnd_stay h k]
theorem fnd_at {p : Nat → Bool} {n m : Nat} (h : fnd p n = none) (hp : p n = true) (hm : n < m) : fnd p m = some n := by
  have e : fnd p (n + 1) = some n := by rw [fnd, h]; exact if_pos hp
  have := fnd_stay e (m - (n + 1))
  rwa [show n + 1 + (m - (n + 1)) = m by omega] at this
theorem fnd_no {p : Nat → Bool} {n : Nat} (h : fnd p n = none) (hp : p n = false) : fnd p (n + 1) = none := by
  rw [fnd, h]; exact if_neg (by rw [hp]; decide)
theorem fnd_lt {p : Nat → Bool} : ∀ {n x : Nat}, fnd p n = some x → x < n ∧ p x = true
  | 0, _, h => by cases h
  | n + 1, x, h => by
    rw [fnd] at h
    split at h
    next y e =>
      cases h
      have := fnd_lt e
      exact ⟨by omega, this.2⟩
    next e =>
      split at h
      next c => cases h; exact ⟨Nat.lt_succ_self _, c⟩
      next c => cases h
theorem fnd_none {p : Nat → Bool} : ∀ {n : Nat}, fnd p n = none ↔ ∀ x, x < n → p x = false
  | 0 => ⟨fun _ _ h => absurd h (Nat.not_lt_zero _), fun _ => rfl⟩
  | n + 1 => by
    rw [fnd]
    constructor
    · intro h x hx
      split at h
      next y e => cases h
      next e =>
        split at h
        next c => cases h
        next c =>
          by_cases q : x = n
          · rw [q]; simpa using c
          · exact fnd_none.mp e x (by omega)
    · intro h
      rw [fnd_none.mpr (fun x hx => h x (by omega))]
      exact if_neg (by rw [h n (Nat.lt_succ_self _)]; decide)
theorem lst_lt {p : Nat → Bool} : ∀ {n x : Nat}, lst p n = some x → x < n ∧ p x = true
  | 0, _, h => by cases h
  | n + 1, x, h => by
    rw [lst] at h
    split at h
    next c => cases h; exact ⟨Nat.lt_succ_self _, c⟩
    next c =>
      have := lst_lt h
      exact ⟨by omega, this.2⟩
theorem lst_none {p : Nat → Bool} : ∀ {n : Nat}, lst p n = none ↔ ∀ x, x < n → p x = false
  | 0 => ⟨fun _ _ h => absurd h (Nat.not_lt_zero _), fun _ => rfl⟩
  | n + 1 => by
    rw [lst]
    constructor
    · intro h x hx
      split at h
      next c => cases h
      next c =>
        by_cases q : x = n
        · rw [q]; simpa using c
        · exact lst_none.mp h x (by omega)
    · intro h
      rw [if_neg (by rw [h n (Nat.lt_succ_self _)]; decide)]
      exact lst_none.mpr (fun x hx => h x (by omega))
theorem fnd_lst {p : Nat → Bool} {n : Nat} (hu : ∀ x y, x < n → y < n → p x = true → p y = true → x = y) : fnd p n = lst p n := by
  cases e : fnd p n with
  | none => exact (lst_none.mpr (fnd_none.mp e)).symm
  | some x =>
    obtain ⟨h1, h2⟩ := fnd_lt e
    cases e2 : lst p n with
    | none => rw [lst_none.mp e2 x h1] at h2; cases h2
    | some y =>
      obtain ⟨h3, h4⟩ := lst_lt e2
      rw [hu x y h1 h3 h2 h4]
section AHD
variable {G : pm_G} {d : Nat} {h : pm_H} {f : Nat}
theorem nI_le0 {n : Nat} (h : n < 2 ^ 31) : nI n ≤ 0 ↔ n = 0 := by
  rw [i_le, nI_toInt h]
  show (n : Int) ≤ 0 ↔ n = 0
  omega
theorem nI_sub1 {n : Nat} : nI (n + 1) + (-1) = nI n := by
  rw [← nI_1]
  rw [Int32.add_assoc]
  simp
theorem s_listLoop {post : pm_PT} (hF : Fa h f) : ∀ (n : Nat) (l : List Nat), LC (gi h (f + 22)) l → (∀ t ∈ l, t < 20) → n < l.length → n < 2 ^ 30 → post (some (.int (nI (l.getD n 0)))) h → Wp G (m_X0_listedAt, d + 2, 0, 0, post) (0, 0) 30 [.ref f, .null, .null, .int (hdI l), .int (nI n)] [] h
  | 0, l, _, _, hn, _, k => by
    refine x_X0_listedAt_30 ?_
    rw [if_pos ((nI_le0 (by decide)).mpr rfl)]
    cases l with
    | nil => exact absurd hn (Nat.not_lt_zero _)
    | cons t r => exact k
  | n + 1, l, hl, ht, hn, h31, k => by
    refine x_X0_listedAt_30 ?_
    rw [if_neg (fun c => by have := (nI_le0 (by omega)).mp c; omega)]
    cases l with
    | nil => exact absurd hn (Nat.not_lt_zero _)
    | cons t r =>
      refine ⟨hF.1, f_at11 hF ?_⟩
      rw [show hdI (t :: r) = nI t from rfl, rd_in (ht t List.mem_cons_self) (by decide), hl.1, nI_sub1]
      exact s_listLoop hF n r hl.2 (fun u hu => ht u (List.mem_cons_of_mem _ hu)) (by simpa using hn) (by omega) k
theorem s_listedAt {Q : Int32 → pm_H → Prop} {k : Nd} {p x y i : Int32} (hF : Fa h f) (hk : NN (gi h) f p k x y) (hlen : (n_ls k).length ≤ 20) (w : Q (lsAt (n_ls k) i) h) : ci G (d + 2) m_X0_listedAt [.ref f, .int (nI k.1), .int i] h Q := by
  refine ci_wp rfl (Nat.le_of_ble_eq_true rfl) rfl (x_X0_listedAt ?_)
  split
  next c =>
    rw [i_lt0] at c
    unfold lsAt at w
    rw [if_neg (by omega)] at w
    exact ⟨_, rfl, w⟩
  next c =>
    rw [i_lt0] at c
    refine ⟨hF.1, f_at6 hF ?_⟩
    rw [rd_in hk.1 (by decide), hk.2.2.2.2.2.2.1]
    split
    next c2 =>
      rw [i_lt, nI_toInt (by omega)] at c2
      refine ⟨hF.1, f_at4 hF ?_⟩
      rw [rd_in hk.1 (by decide), hk.2.2.2.2.1]
      unfold lsAt at w
      rw [if_pos ⟨by omega, by omega⟩] at w
      have ei : i = nI i.toInt.toNat := by
        rw [i_eq, nI_toInt (by omega)]; omega
      rw [ei]
      exact s_listLoop hF _ _ hk.2.2.2.2.2.2.2.1 (fun t ht => (hk.2.2.2.2.2.2.2.2.1 t ht).2) (by omega) (by omega) ⟨_, rfl, w⟩
    next c2 =>
      rw [i_lt, nI_toInt (by omega)] at c2
      unfold lsAt at w
      rw [if_neg (by omega)] at w
      exact ⟨_, rfl, w⟩
theorem s_dclimb {post : pm_PT} (hF : Fa h f) : ∀ (T : Tr) (p : Int32) (c j m : Nat), NC (gi h) f p T → tr_dp T j = some m → c + m < 24 → Wp G (m_X0_depthOf, d + 2, 0, 0, post) (0, 0) 11 [.ref f, .null, .int (nI (c + m)), .int p] [] h → Wp G (m_X0_depthOf, d + 2, 0, 0, post) (0, 0) 11 [.ref f, .null, .int (nI c), .int (gi h (f + 18) j)] [] h
  | .leaf, _, _, _, _, _, e, _, _ => by cases e
  | .inner _ k _ l r, p, c, j, m, ⟨h1, h2, h3⟩, e, hc, w => by
    rw [tr_dp] at e
    split at e
    next q =>
      cases e
      rw [← q, h1.2.2.2.2.2.2.2.2.2.2.2]
      exact w
    next q =>
      have up : ∀ n, c + n + 1 < 24 → Wp G (m_X0_depthOf, d + 2, 0, 0, post) (0, 0) 11 [.ref f, .null, .int (nI (c + n + 1)), .int p] [] h → Wp G (m_X0_depthOf, d + 2, 0, 0, post) (0, 0) 11 [.ref f, .null, .int (nI (c + n)), .int (nI k.1)] [] h := by
        intro n hn w
        refine x_X0_depthOf_11 ?_
        rw [if_neg (li_no 24 24 rfl (by omega) (by decide)), if_neg (nI_nm1 (by have := h1.1; omega))]
        refine ⟨hF.1, f_at9 hF ?_⟩
        rw [rd_in h1.1 (by decide), h1.2.2.2.2.2.2.2.2.2.2.2, nI_1]
        exact w
      split at e
      next n e1 =>
        cases e
        exact s_dclimb hF l _ c j n h2 e1 (by omega) (up n (by omega) w)
      next e1 =>
        split at e
        next n e2 =>
          cases e
          exact s_dclimb hF r _ c j n h3 e2 (by omega) (up n (by omega) w)
        next e2 => cases e
theorem s_depthOf {Q : Int32 → pm_H → Prop} {T : Tr} {j m : Nat} (hF : Fa h f) (hT : NC (gi h) f (-1) T) (hr : TR T) (hj : j < 24) (hk : tr_rk T < 24) (e : tr_dp T j = some m) (k : Q (nI m) h) : ci G (d + 2) m_X0_depthOf [.ref f, .int (nI j)] h Q := by
  have hm := tr_dp_le hr e
  refine ci_wp rfl (Nat.le_of_ble_eq_true rfl) rfl (x_X0_depthOf ⟨hF.1, f_at9 hF ?_⟩)
  rw [rd_in hj (by decide)]
  refine s_dclimb hF T (-1) 0 j m hT e (by omega) ?_
  refine x_X0_depthOf_11 ?_
  rw [if_neg (li_no 24 24 rfl (by omega) (by decide)), if_pos rfl, Nat.zero_add]
  exact ⟨_, rfl, k⟩
theorem s_isAhead {Q : Int32 → pm_H → Prop} {t o : Nat} (hP : Pk h) (ht : t < 20) (ho : o < 20) (k : Q (b2i (ahC (gf h 16) t o)) h) : ci G (d + 2) m_X4_isAhead [.ref 3, .int (nI t), .int (nI o)] h Q := by
  refine ci_wp rfl (Nat.le_of_ble_eq_true rfl) rfl (x_X4_isAhead ⟨hP.1, s_keyOf hP ⟨hP.1, s_keyOf hP ?_⟩⟩)
  rw [kyf_in ht, kyf_in ho]
  unfold ahC kLt at k
  by_cases c : FP.fcmp (gf h 16 t) (gf h 16 o) = some .lt
  · rw [if_pos (cmpG'.mpr c)]
    rw [decide_eq_true c] at k
    exact ⟨_, rfl, k⟩
  · rw [if_neg (fun z => c (cmpG'.mp z))]
    rw [decide_eq_false c, Bool.false_or] at k
    by_cases c2 : FP.fcmp (gf h 16 t) (gf h 16 o) = some .eq
    · rw [if_pos (cmpL0.mpr c2)]
      rw [decide_eq_true c2, Bool.true_and] at k
      by_cases c3 : t < o
      · rw [if_neg (show ¬ nI o ≤ nI t from nI_nlen c3 (by omega))]
        rw [decide_eq_true c3] at k
        exact ⟨_, rfl, k⟩
      · rw [if_pos (by rw [i_le, nI_toInt (by omega), nI_toInt (by omega)]; omega)]
        rw [decide_eq_false c3] at k
        exact ⟨_, rfl, k⟩
    · rw [if_neg (fun z => c2 (cmpL0.mp z))]
      rw [decide_eq_false c2, Bool.false_and] at k
      exact ⟨_, rfl, k⟩
theorem s_aheadOf {Q : Int32 → pm_H → Prop} {x : Int32} {i : Nat} {hp : Nat → Int32} (hF : Fa h f) (hP : Pk h) (hi : i < 20) (hv : ∀ t, t < 20 → gi h (f + 26) t = hp t) (k : Q (nI (cnt (fun t => decide (hp t = x) && ahC (gf h 16) t i) 20)) h) : ci G (d + 3) m_X0_aheadOf [.ref f, .int x, .int (nI i)] h Q := by
  have g0 : gp h f 0 = 3 := hF.2.1
  refine ci_wp rfl (Nat.le_of_ble_eq_true rfl) rfl (x_X0_aheadOf ?_)
  refine up_to (P := fun n => Wp G (m_X0_aheadOf, d + 2 + 1, 0, 0, fun v h1 => ∃ r, v = some (.int r) ∧ Q r h1) (0, 0) 5 [.ref f, .int x, .int (nI i), .int (nI (cnt (fun t => decide (hp t = x) && ahC (gf h 16) t i) n)), .int (nI n)] [] h) 20 (fun n hn20 ih => ?_) ?_
  · refine x_X0_aheadOf_5 ?_
    rw [if_neg (li_no 20 20 rfl hn20 (by decide))]
    refine ⟨hF.1, f_at13 hF ?_⟩
    rw [rd_in hn20 (by decide), hv n hn20, nI_1, nI_1]
    have key := cnt_b (p := fun t => decide (hp t = x) && ahC (gf h 16) t i) (n := n)
    by_cases c : hp n = x
    · rw [if_pos c, g0]
      refine ⟨hF.1, hP.1, s_isAhead hP hn20 hi ?_⟩
      simp only [decide_eq_true c, Bool.true_and] at key
      by_cases z : ahC (gf h 16) n i = true
      · rw [if_neg (by rw [z]; decide)]
        rw [z] at key
        rw [b2i_t, nI_1] at key; rw [key]; exact ih
      · have z : ahC (gf h 16) n i = false := by simpa using z
        rw [if_pos (by rw [z]; decide)]
        rw [z] at key
        rw [b2i_f] at key; rw [key]; exact ih
    · rw [if_neg c]
      simp only [decide_eq_false c, Bool.false_and] at key
      rw [b2i_f] at key; rw [key]; exact ih
  · refine x_X0_aheadOf_5 ?_
    rw [if_pos (li_yes 20 20 rfl)]
    exact ⟨_, rfl, k⟩
/-- the ITEM of place i of a HEAP -/
def selP (ah : Nat → Nat → Bool) (hp : Nat → Int32) (x i : Int32) (t : Nat) : Bool := decide (hp t = x) && decide (nI (cnt (fun u => decide (hp u = x) && ah u t) 20) = i)
theorem s_selected {Q : Int32 → pm_H → Prop} {x i : Int32} {hp : Nat → Int32} (hF : Fa h f) (hP : Pk h) (hv : ∀ t, t < 20 → gi h (f + 26) t = hp t) (k : Q (oI (fnd (selP (ahC (gf h 16)) hp x i) 20)) h) : ci G (d + 4) m_X0_selected [.ref f, .int x, .int i] h Q := by
  refine ci_wp rfl (Nat.le_of_ble_eq_true rfl) rfl (x_X0_selected ?_)
  refine up_to (P := fun n => fnd (selP (ahC (gf h 16)) hp x i) n = none → Wp G (m_X0_selected, d + 3 + 1, 0, 0, fun v h1 => ∃ r, v = some (.int r) ∧ Q r h1) (0, 0) 2 [.ref f, .int x, .int i, .int (nI n)] [] h) 20 (fun n hn20 ih => ?_) ?_ rfl
  · intro e
    refine x_X0_selected_2 ?_
    rw [if_neg (li_no 20 20 rfl hn20 (by decide))]
    refine ⟨hF.1, f_at13 hF ?_⟩
    rw [rd_in hn20 (by decide), hv n hn20, nI_1]
    by_cases c : hp n = x
    · rw [if_pos c]
      refine ⟨hF.1, s_aheadOf hF hP hn20 hv ?_⟩
      by_cases c2 : nI (cnt (fun u => decide (hp u = x) && ahC (gf h 16) u n) 20) = i
      · rw [if_pos c2]
        have hp1 : selP (ahC (gf h 16)) hp x i n = true := by unfold selP; rw [decide_eq_true c, decide_eq_true c2]; rfl
        rw [fnd_at e hp1 hn20] at k
        exact ⟨_, rfl, k⟩
      · rw [if_neg c2]
        exact ih (fnd_no e (by unfold selP; rw [decide_eq_false c2, Bool.and_false]))
    · rw [if_neg c]
      exact ih (fnd_no e (by unfold selP; rw [decide_eq_false c, Bool.false_and]))
  · intro e
    refine x_X0_selected_2 ?_
    rw [if_pos (li_yes 20 20 rfl)]
    rw [e] at k
    exact ⟨_, rfl, k⟩
end AHD
