/-! THE REFERENCE: its row of numbers, read and written -/
def s8 (h : pm_H) (S : Nat → Int32) : pm_H := (h.1, (fun a => if a = 458 then S else gi h a), h.2.2)
theorem s8_gi (h : pm_H) (S : Nat → Int32) : gi (s8 h S) 458 = S := by
  show (if (458 : Nat) = 458 then S else gi h 458) = S
  exact if_pos rfl
theorem s8_ne (h : pm_H) (S : Nat → Int32) {a : Nat} (ha : a ≠ 458) : gi (s8 h S) a = gi h a := by
  show (if a = 458 then S else gi h a) = gi h a
  exact if_neg ha
theorem s8_s8 (h : pm_H) (S S' : Nat → Int32) : s8 (s8 h S) S' = s8 h S' := by
  have : (fun a => if a = 458 then S' else gi (s8 h S) a) = (fun a => if a = 458 then S' else gi h a) := by
    funext a
    by_cases ha : a = 458
    · rw [if_pos ha, if_pos ha]
    · rw [if_neg ha, if_neg ha]; exact s8_ne h S ha
  show (h.1, _, h.2.2) = (h.1, _, h.2.2)
  rw [this]
theorem s8_self (h : pm_H) : s8 h (gi h 458) = h := by
  have : (fun a => if a = 458 then gi h 458 else gi h a) = gi h := by
    funext a
    by_cases ha : a = 458
    · rw [if_pos ha, ha]
    · rw [if_neg ha]
  show (h.1, (fun a => if a = 458 then gi h 458 else gi h a), h.2.2) = h
  rw [this]
theorem s8_si (h : pm_H) (S : Nat → Int32) (i : Nat) (v : Int32) : si (s8 h S) 458 i v = s8 h (up1 S i v) := by
  have : pm_u (gi (s8 h S)) 458 i v = (fun a => if a = 458 then up1 S i v else gi h a) := by
    funext a
    by_cases ha : a = 458
    · subst ha
      rw [if_pos rfl, pm_u_at, s8_gi]
      rfl
    · rw [if_neg ha, pm_u_ne _ _ _ ha]; exact s8_ne h S ha
  show (h.1, pm_u (gi (s8 h S)) 458 i v, h.2.2) = _
  rw [this]; rfl
/-- the reference's place -/
def Md (h : pm_H) : Prop := h.1[446]? = some (0, 11) ∧ gp h 446 17 = 458 ∧ h.1[458]? = some (1, 4485)
theorem La.md {h : pm_H} (hL : La h) : Md h := ⟨hL.k (by decide +kernel), hL.p (by decide +kernel) (by omega), hL.k (by decide +kernel)⟩
theorem Md.s {h : pm_H} (hM : Md h) (S : Nat → Int32) : Md (s8 h S) := hM
theorem ix3 (b n w : Nat) : (nI b + 8 * nI n) + nI w = nI (b + 8 * n + w) := by
  rw [show (8 : Int32) = nI 8 from rfl, pk_mul, nI_add, nI_add]
section REF
variable {G : pm_G} {d : Nat} {h : pm_H} {S : Nat → Int32}
theorem r_nodeOf {b n w : Nat} {Q : Int32 → pm_H → Prop} (hM : Md h) (hi : b + 8 * n + w < 4485) (k : Q (S (b + 8 * n + w)) (s8 h S)) : ci G (d + 1) m_X12_nodeOf [.ref 446, .int (nI b), .int (nI n), .int (nI w)] (s8 h S) Q := by
  refine ci_wp rfl (Nat.le_of_ble_eq_true rfl) rfl (x_X12_nodeOf ?_)
  have hp : gp (s8 h S) 446 17 = 458 := hM.2.1
  rw [hp, ix3, cl_nI (by omega), s8_gi]
  exact ⟨hM.1, 4485, hM.2.2, vp_nI hi (by decide), _, rfl, k⟩
theorem r_lays {b n w : Nat} {v : Int32} {Q : pm_H → Prop} (hM : Md h) (hi : b + 8 * n + w < 4485) (k : Q (s8 h (up1 S (b + 8 * n + w) v))) : cv G (d + 1) m_X12_lays [.ref 446, .int (nI b), .int (nI n), .int (nI w), .int v] (s8 h S) Q := by
  refine cv_wp rfl (Nat.le_of_ble_eq_true rfl) rfl (x_X12_lays ?_)
  have hp : gp (s8 h S) 446 17 = 458 := hM.2.1
  rw [hp, ix3, cl_nI (by omega)]
  refine ⟨hM.1, 4485, hM.2.2, vp_nI hi (by decide), ?_⟩
  rintro _ rfl
  rw [s8_si]
  exact ⟨rfl, k⟩
theorem ix4 (b q r : Nat) : ((nI b + 192) + (16 * nI q)) + nI r = nI (b + 192 + 16 * q + r) := by
  rw [show (16 : Int32) = nI 16 from rfl, show (192 : Int32) = nI 192 from rfl, pk_mul, nI_add, nI_add, nI_add]
theorem r_rootAt {b q r : Nat} {Q : Int32 → pm_H → Prop} (hM : Md h) (hi : b + 192 + 16 * q + r < 4485) (k : Q (S (b + 192 + 16 * q + r)) (s8 h S)) : ci G (d + 1) m_X12_rootAt [.ref 446, .int (nI b), .int (nI q), .int (nI r)] (s8 h S) Q := by
  refine ci_wp rfl (Nat.le_of_ble_eq_true rfl) rfl (x_X12_rootAt ?_)
  have hp : gp (s8 h S) 446 17 = 458 := hM.2.1
  rw [hp, ix4, cl_nI (by omega), s8_gi]
  exact ⟨hM.1, 4485, hM.2.2, vp_nI hi (by decide), _, rfl, k⟩
theorem r_roots {b q r : Nat} {v : Int32} {Q : pm_H → Prop} (hM : Md h) (hi : b + 192 + 16 * q + r < 4485) (k : Q (s8 h (up1 S (b + 192 + 16 * q + r) v))) : cv G (d + 1) m_X12_roots [.ref 446, .int (nI b), .int (nI q), .int (nI r), .int v] (s8 h S) Q := by
  refine cv_wp rfl (Nat.le_of_ble_eq_true rfl) rfl (x_X12_roots ?_)
  have hp : gp (s8 h S) 446 17 = 458 := hM.2.1
  rw [hp, ix4, cl_nI (by omega)]
  refine ⟨hM.1, 4485, hM.2.2, vp_nI hi (by decide), ?_⟩
  rintro _ rfl
  rw [s8_si]
  exact ⟨rfl, k⟩
theorem nI_0le {n : Nat} (h : n < 2 ^ 31) : 0 ≤ nI n := by
  rw [i_le, nI_toInt h]; exact Int.natCast_nonneg n
theorem m1_neg : ¬ (0 : Int32) ≤ -1 := by decide
/-- a node, in the reference's row -/
def RN (ky : Nat → Int32) (S : Nat → Int32) (b : Nat) (k : Nd) (x y : Int32) : Prop :=
  k.1 < 24 ∧ S (b + 8 * k.1) = nI (n_rk k) ∧ S (b + 8 * k.1 + 1) = n_tg k ∧ (n_ls k ≠ [] → S (b + 8 * k.1 + 2) = ky (n_ld k)) ∧ S (b + 8 * k.1 + 3) = nI (n_ls k).length ∧ S (b + 8 * k.1 + 4) = hdI (n_ls k) ∧ (n_ls k ≠ [] → S (b + 8 * k.1 + 5) = laI (n_ls k)) ∧ S (b + 8 * k.1 + 6) = x ∧ S (b + 8 * k.1 + 7) = y ∧
  LC (fun t => S (b + 300 + t)) (n_ls k) ∧ ∀ t ∈ n_ls k, t < 20
def NR (ky : Nat → Int32) (S : Nat → Int32) (b : Nat) : Tr → Prop
  | .leaf => True
  | .inner _ k _ l r => RN ky S b k (tr_no l) (tr_no r) ∧ NR ky S b l ∧ NR ky S b r
/-- only these nodes and items have changed -/
def RF (S S' : Nat → Int32) (b : Nat) (ids its : List Nat) : Prop := ∀ i, S' i = S i ∨ (∃ n w, n ∈ ids ∧ w < 8 ∧ i = b + 8 * n + w) ∨ (∃ t, t ∈ its ∧ i = b + 300 + t)
theorem RF.rfl' {S : Nat → Int32} {b : Nat} {ids its : List Nat} : RF S S b ids its := fun _ => Or.inl rfl
theorem RF.trans {S S1 S2 : Nat → Int32} {b : Nat} {ids its : List Nat} (h1 : RF S S1 b ids its) (h2 : RF S1 S2 b ids its) : RF S S2 b ids its := fun i => by
  rcases h2 i with q | q | q
  · rcases h1 i with r | r | r
    · exact Or.inl (q.trans r)
    · exact Or.inr (Or.inl r)
    · exact Or.inr (Or.inr r)
  · exact Or.inr (Or.inl q)
  · exact Or.inr (Or.inr q)
theorem RF.mono {S S' : Nat → Int32} {b : Nat} {ids its ids' its' : List Nat} (h : RF S S' b ids its) (h1 : ∀ i ∈ ids, i ∈ ids') (h2 : ∀ i ∈ its, i ∈ its') : RF S S' b ids' its' := fun i => by
  rcases h i with q | ⟨n, w, q1, q2, q3⟩ | ⟨t, q1, q2⟩
  · exact Or.inl q
  · exact Or.inr (Or.inl ⟨n, w, h1 n q1, q2, q3⟩)
  · exact Or.inr (Or.inr ⟨t, h2 t q1, q2⟩)
theorem RF.u {b n w : Nat} {v : Int32} {ids its : List Nat} (hn : n ∈ ids) (hw : w < 8) : RF S (up1 S (b + 8 * n + w) v) b ids its := fun i => by
  by_cases q : i = b + 8 * n + w
  · exact Or.inr (Or.inl ⟨n, w, hn, hw, q⟩)
  · exact Or.inl (up1_ne _ _ q)
theorem RF.ut {b t : Nat} {v : Int32} {ids its : List Nat} (hn : t ∈ its) : RF S (up1 S (b + 300 + t) v) b ids its := fun i => by
  by_cases q : i = b + 300 + t
  · exact Or.inr (Or.inr ⟨t, hn, q⟩)
  · exact Or.inl (up1_ne _ _ q)
theorem RF.node {S' : Nat → Int32} {b n w : Nat} {ids its : List Nat} (h : RF S S' b ids its) (hn : n ∉ ids) (hn2 : n < 24) (hw : w < 8) : S' (b + 8 * n + w) = S (b + 8 * n + w) := by
  rcases h (b + 8 * n + w) with q | ⟨n', w', q1, q2, q3⟩ | ⟨t, q1, q2⟩
  · exact q
  · exact absurd (show n = n' by omega) (fun z => hn (z ▸ q1))
  · omega
theorem RF.item {S' : Nat → Int32} {b t : Nat} {ids its : List Nat} (h : RF S S' b ids its) (hn : t ∉ its) (hi : ∀ n ∈ ids, n < 24) : S' (b + 300 + t) = S (b + 300 + t) := by
  rcases h (b + 300 + t) with q | ⟨n', w', q1, q2, q3⟩ | ⟨t', q1, q2⟩
  · exact q
  · have := hi n' q1; omega
  · exact absurd (show t = t' by omega) (fun z => hn (z ▸ q1))
theorem RF.other {S' : Nat → Int32} {b i : Nat} {ids its : List Nat} (h : RF S S' b ids its) (hi : ∀ n ∈ ids, n < 24) (ht : ∀ t ∈ its, t < 20) (h1 : i < b ∨ (b + 192 ≤ i ∧ i < b + 300) ∨ b + 320 ≤ i) : S' i = S i := by
  rcases h i with q | ⟨n', w', q1, q2, q3⟩ | ⟨t', q1, q2⟩
  · exact q
  · have := hi n' q1; omega
  · have := ht t' q1; omega
theorem RN.congr {ky S' : Nat → Int32} {b : Nat} {k : Nd} {x y : Int32} (h : RN ky S b k x y) (h1 : ∀ w, w < 8 → S' (b + 8 * k.1 + w) = S (b + 8 * k.1 + w)) (h2 : ∀ t ∈ n_ls k, S' (b + 300 + t) = S (b + 300 + t)) : RN ky S' b k x y := by
  obtain ⟨a0, a1, a2, a3, a4, a5, a6, a7, a8, a9, a10⟩ := h
  exact ⟨a0, (h1 0 (by decide)).trans a1, (h1 1 (by decide)).trans a2, fun q => (h1 2 (by decide)).trans (a3 q), (h1 3 (by decide)).trans a4, (h1 4 (by decide)).trans a5, fun q => (h1 5 (by decide)).trans (a6 q), (h1 6 (by decide)).trans a7, (h1 7 (by decide)).trans a8, LC.congr h2 a9, a10⟩
theorem RF.nr {ky S' : Nat → Int32} {b : Nat} {ids its : List Nat} (h : RF S S' b ids its) (hi : ∀ n ∈ ids, n < 24) : ∀ {T : Tr}, NR ky S b T → (∀ i ∈ tr_ids T, i ∉ ids) → (∀ i ∈ tr_its T, i ∉ its) → NR ky S' b T
  | .leaf, _, _, _ => trivial
  | .inner _ k _ l r, ⟨h1, h2, h3⟩, d1, d2 => by
    refine ⟨h1.congr (fun w hw => h.node (d1 _ List.mem_cons_self) h1.1 hw) (fun t ht => h.item (d2 t (List.mem_append_left _ ht)) hi), h.nr hi h2 (fun i q => d1 i (List.mem_cons_of_mem _ (List.mem_append_left _ q))) (fun i q => d2 i (List.mem_append_right _ (List.mem_append_left _ q))), h.nr hi h3 (fun i q => d1 i (List.mem_cons_of_mem _ (List.mem_append_right _ q))) (fun i q => d2 i (List.mem_append_right _ (List.mem_append_right _ q)))⟩
theorem NR.m1 {ky : Nat → Int32} {b : Nat} {T : Tr} (h : NR ky S b T) : (tr_no T = -1 ↔ isL T = true) ∧ (tr_no T < 0 ↔ isL T = true) ∧ (0 ≤ tr_no T ↔ isL T = false) := by
  cases T with
  | leaf => exact ⟨by simp [tr_no, isL], by simp only [tr_no, isL, iff_true]; decide, by simp only [tr_no, isL, Bool.true_eq_false, iff_false]; decide⟩
  | inner s k v l r =>
    have := h.1.1
    simp only [tr_no, isL, Bool.false_eq_true, iff_false, iff_true]
    exact ⟨nI_nm1 (by omega), nI_pos (by omega), nI_0le (by omega)⟩
theorem r_isLeaf {ky : Nat → Int32} {b n : Nat} {l r : Tr} {Q : Int32 → pm_H → Prop} (hM : Md h) (hi : b + 8 * n + 7 < 4485) (hl : NR ky S b l) (hr : NR ky S b r) (h6 : S (b + 8 * n + 6) = tr_no l) (h7 : S (b + 8 * n + 7) = tr_no r) (k : Q (if isL l = true ∧ isL r = true then 1 else 0) (s8 h S)) : ci G (d + 2) m_X12_isLeaf [.ref 446, .int (nI b), .int (nI n)] (s8 h S) Q := by
  refine ci_wp rfl (Nat.le_of_ble_eq_true rfl) rfl (x_X12_isLeaf ⟨hM.1, r_nodeOf (w := 6) hM (by omega) ?_⟩)
  rw [h6]
  by_cases c : isL l = true
  · rw [if_neg (fun z => by rw [(hl.m1).2.2] at z; rw [c] at z; cases z)]
    refine ⟨hM.1, r_nodeOf (w := 7) hM (by omega) ?_⟩
    rw [h7]
    by_cases c2 : isL r = true
    · rw [if_neg (fun z => by rw [(hr.m1).2.2] at z; rw [c2] at z; cases z)]
      rw [if_pos ⟨c, c2⟩] at k
      exact ⟨_, rfl, k⟩
    · rw [if_pos ((hr.m1).2.2.mpr (by simpa using c2))]
      rw [if_neg (fun z => c2 z.2)] at k
      exact ⟨_, rfl, k⟩
  · rw [if_pos ((hl.m1).2.2.mpr (by simpa using c))]
    rw [if_neg (fun z => c z.1)] at k
    exact ⟨_, rfl, k⟩
/-- a node laid free -/
def fr8 (S : Nat → Int32) (b n k : Nat) : Nat → Int32 := fun i => if b + 8 * n ≤ i ∧ i < b + 8 * n + k then -1 else S i
theorem r_frees {b n : Nat} {Q : pm_H → Prop} (hM : Md h) (hi : b + 8 * n + 7 < 4485) (k : Q (s8 h (fr8 S b n 8))) : cv G (d + 2) m_X12_frees [.ref 446, .int (nI b), .int (nI n)] (s8 h S) Q := by
  refine cv_wp rfl (Nat.le_of_ble_eq_true rfl) rfl (x_X12_frees ?_)
  have key := up_to (P := fun j => Wp G (m_X12_frees, d + 2, 0, 0, fun v h1 => v = none ∧ Q h1) (0, 0) 2 [.ref 446, .int (nI b), .int (nI n), .int (nI j)] [] (s8 h (fr8 S b n j))) 8 (fun j hj ih => ?_) ?_
  · have e : fr8 S b n 0 = S := by funext i; unfold fr8; rw [if_neg (by omega)]
    rw [e] at key; exact key
  · refine x_X12_frees_2 ?_
    rw [if_neg (li_no 8 8 rfl hj (by decide))]
    refine ⟨hM.1, r_lays hM (by omega) ?_⟩
    have e : up1 (fr8 S b n j) (b + 8 * n + j) (-1) = fr8 S b n (j + 1) := by
      funext i
      unfold up1 fr8
      by_cases q : i = b + 8 * n + j
      · rw [if_pos q, if_pos (by omega)]
      · rw [if_neg q]
        by_cases q2 : b + 8 * n ≤ i ∧ i < b + 8 * n + j
        · rw [if_pos q2, if_pos (by omega)]
        · rw [if_neg q2, if_neg (by omega)]
    rw [e, nI_1]
    exact ih
  · refine x_X12_frees_2 ?_
    rw [if_pos (li_yes 8 8 rfl)]
    exact ⟨rfl, k⟩
theorem RF.fr {b n : Nat} {ids its : List Nat} (hn : n ∈ ids) : RF S (fr8 S b n 8) b ids its := fun i => by
  by_cases q : b + 8 * n ≤ i ∧ i < b + 8 * n + 8
  · exact Or.inr (Or.inl ⟨n, i - (b + 8 * n), hn, by omega, by omega⟩)
  · exact Or.inl (if_neg q)
end REF
