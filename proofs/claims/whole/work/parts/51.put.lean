/-! A FOREST: HEAPS, and where each ITEM is -/
abbrev AF : Type := Hs × (Nat → Int32) × (Nat → Int32) × (Nat → Int32)
def okA (A : AF) (w : Nat) : Prop := wf A.1 .leaf w ∧ (∀ t, t < 20 → (A.2.1 t = -1 ∨ ∃ a, a < 3 ∧ A.2.1 t = nI a)) ∧ ∀ t a, t < 20 → a < 3 → (A.2.1 t = nI a ↔ ∃ r, r < 24 ∧ t ∈ tr_its (A.1 (24 * a + r)))
/-- the class's rows hold it -/
def CF (M : Nat → Nat → Int32) (f : Nat) (A : AF) : Prop := RC M f A.1 .leaf ∧ (∀ t, t < 20 → M (f + 26) t = A.2.1 t ∧ M (f + 28) t = A.2.2.1 t ∧ M (f + 30) t = A.2.2.2 t)
def hcount (hp : Nat → Int32) (a : Nat) : Int32 := nI (cnt (fun u => decide (hp u = nI a)) 20)
def putA (lt : Nat → Nat → Bool) (tvf : Int32 → Nat → Int32 → Int32) (A : AF) (t a : Nat) : AF :=
  (joinF lt (tvf (hcount (up1 A.2.1 t (nI a)) a)) 24 A.1 (tn (lfree (aids A.1 ++ []), 0, 1, t, [t]) .leaf .leaf) a 0, up1 A.2.1 t (nI a), up1 A.2.2.1 t (-1), up1 A.2.2.2 t (-1))
theorem joinF_ok {lt : Nat → Nat → Bool} {tv : Nat → Int32 → Int32} {a w : Nat} (ha : a < 3) (hw : w ≤ 1000) (hpos : ∀ r t, 0 < tv r t) : ∀ (n r : Nat) (hs : Hs) (T : Tr), r + n = 24 → wf hs T w → isL T = false → tr_rk T = r →
    wf (joinF lt tv n hs T a r) .leaf w ∧ (∀ q, q < 72 → q / 24 ≠ a → joinF lt tv n hs T a r q = hs q) ∧ ∀ t, (∃ r', r' < 24 ∧ t ∈ tr_its (joinF lt tv n hs T a r (24 * a + r'))) ↔ (∃ r', r' < 24 ∧ t ∈ tr_its (hs (24 * a + r'))) ∨ t ∈ tr_its T
  | 0, r, hs, T, hn, hwf, hT, hr => by
    have := hwf.rk hT hw
    omega
  | n + 1, r, hs, T, hn, hwf, hT, hr => by
    have hr9 : r ≤ 9 := hr ▸ hwf.rk hT hw
    have hq : 24 * a + r < 72 := by omega
    by_cases hX : isL (hs (24 * a + r)) = true
    · rw [joinF, if_pos hX]
      refine ⟨wf_put hwf hr hq (by omega) hX, fun q hq2 hne => up1_ne hs _ (by omega), fun t => ?_⟩
      constructor
      · rintro ⟨r', h1, h2⟩
        by_cases z : r' = r
        · rw [z, up1_at] at h2; exact Or.inr h2
        · rw [up1_ne hs _ (by omega)] at h2; exact Or.inl ⟨r', h1, h2⟩
      · rintro (⟨r', h1, h2⟩ | h2)
        · refine ⟨r', h1, ?_⟩
          by_cases z : r' = r
          · rw [z, isL_leaf hX] at h2; cases h2
          · rw [up1_ne hs _ (by omega)]; exact h2
        · exact ⟨r, by omega, by rw [up1_at]; exact h2⟩
    · have hX' : isL (hs (24 * a + r)) = false := by simpa using hX
      rw [joinF, if_neg hX]
      obtain ⟨y1, y2, y3, y4, y5, y6, y7, y8, k', l', r', m, y9, y10, y11, y12, y13, y14, y15, y16⟩ := wf_join (lt := lt) (tg := tv (r + 1) (mx (tr_tg (hs (24 * a + r))) (tr_tg T))) hwf hT hr hw ha hX' (hpos _ _)
      have xs := hwf.2.2.2.2.1 _ hq
      obtain ⟨g1, g2, g3, g4, -⟩ := siftF_spec 400 _ _ _ _ _ _ _ y9 xs.1 hwf.2.2.2.2.2.1 y5 (hpos _ _) y8 (Or.inl rfl)
      rw [y10]
      obtain ⟨z1, z2, z3⟩ := joinF_ok ha hw hpos n (r + 1) (up1 hs (24 * a + r) .leaf) (tn k' l' r') (by omega) y16 rfl y13
      refine ⟨z1, fun q hq2 hne => (z2 q hq2 hne).trans (up1_ne hs _ (by omega)), fun t => ?_⟩
      rw [z3 t, g4.mem_iff]
      have e : t ∈ tr_its (tn (lfree (aids hs ++ tr_ids T), r + 1, tv (r + 1) (mx (tr_tg (hs (24 * a + r))) (tr_tg T)), 0, []) (hs (24 * a + r)) T) ↔ t ∈ tr_its (hs (24 * a + r)) ∨ t ∈ tr_its T := by simp [tr_its, n_ls]
      rw [e]
      constructor
      · rintro (⟨r2, h1, h2⟩ | h2 | h2)
        · by_cases z : r2 = r
          · rw [z, up1_at] at h2; cases h2
          · rw [up1_ne hs _ (by omega)] at h2; exact Or.inl ⟨r2, h1, h2⟩
        · exact Or.inl ⟨r, by omega, h2⟩
        · exact Or.inr h2
      · rintro (⟨r2, h1, h2⟩ | h2)
        · by_cases z : r2 = r
          · rw [z] at h2; exact Or.inr (Or.inl h2)
          · exact Or.inl ⟨r2, h1, by rw [up1_ne hs _ (by omega)]; exact h2⟩
        · exact Or.inr (Or.inr h2)
/-- a LEAF on its way -/
theorem wf_leaf {hs : Hs} {w t : Nat} (h : wf hs .leaf w) (ht : t < 20) (hn : t ∉ aits hs) : wf hs (tn (lfree (aids hs ++ []), 0, 1, t, [t]) .leaf .leaf) (w + 1) ∧ lfree (aids hs ++ []) < 24 ∧ lfree (aids hs ++ []) ∉ aids hs ∧ ∀ j, j < lfree (aids hs ++ []) → j ∈ aids hs := by
  have hfew := h.few
  rw [show tr_ids .leaf = [] from rfl, List.append_nil] at hfew
  rw [List.append_nil]
  obtain ⟨f1, f2, f3⟩ := lfree_ok (us := aids hs) (by omega)
  obtain ⟨h1, h2, h3, h3', h4, h5, h6, h7⟩ := h
  rw [show tr_ids .leaf = [] from rfl, List.append_nil] at h1 h3'
  rw [show tr_its .leaf = [] from rfl, List.append_nil] at h2 h3
  refine ⟨⟨?_, ?_, fun u hu => ?_, fun j hj => ?_, h4, ⟨⟨by simp [n_ls], ht, by show (0 : Int32) < 1; decide⟩, trivial, trivial⟩, ⟨Or.inl rfl, Or.inl rfl, trivial, trivial⟩, ?_⟩, f1, f2, f3⟩
  · exact List.nodup_append.mpr ⟨h1, by simp [tr_ids], fun x hx y hy q => f2 (by simp [tr_ids] at hy; rw [← hy, ← q]; exact hx)⟩
  · exact List.nodup_append.mpr ⟨h2, by simp [tr_its, n_ls], fun x hx y hy q => hn (by simp [tr_its, n_ls] at hy; rw [← hy, ← q]; exact hx)⟩
  · rcases List.mem_append.mp hu with q | q
    · exact h3 u q
    · simp [tr_its, n_ls] at q; rw [q]; exact ht
  · rcases List.mem_append.mp hj with q | q
    · exact h3' j q
    · simp [tr_ids] at q; rw [q]; exact f1
  · have e1 : trw Std.DTreeMap.Internal.Impl.leaf (tr_rk .leaf) = 0 := rfl
    have e2 : trw (tn (lfree (aids hs), 0, 1, t, [t]) .leaf .leaf) (tr_rk (tn (lfree (aids hs), 0, 1, t, [t]) .leaf .leaf)) = 1 := rfl
    rw [e1] at h7
    rw [e2]
    omega
theorem okA.free {A : AF} {w t : Nat} (h : okA A w) (ht : t < 20) (hn : A.2.1 t = -1) : t ∉ aits A.1 := fun q => by
  obtain ⟨x, hx, hx2⟩ := aits_mem.mp q
  have := (h.2.2 t (x / 24) ht (by omega)).mpr ⟨x % 24, Nat.mod_lt _ (by decide), by rw [show 24 * (x / 24) + x % 24 = x by omega]; exact hx2⟩
  rw [hn] at this
  exact nI_nm1 (by omega) this.symm
theorem okA_put {lt : Nat → Nat → Bool} {tvf : Int32 → Nat → Int32 → Int32} {A : AF} {w t a : Nat} (h : okA A w) (ht : t < 20) (ha : a < 3) (hn : A.2.1 t = -1) (hw : w + 1 ≤ 1000) (hpos : ∀ al r g, 0 < tvf al r g) : okA (putA lt tvf A t a) (w + 1) := by
  obtain ⟨w1, -, -, -⟩ := wf_leaf h.1 ht (h.free ht hn)
  obtain ⟨z1, z2, z3⟩ := joinF_ok (lt := lt) (tv := tvf (hcount (up1 A.2.1 t (nI a)) a)) ha hw (hpos _) 24 0 A.1 _ rfl w1 rfl rfl
  refine ⟨z1, fun u hu => ?_, fun u b hu hb => ?_⟩
  · by_cases q : u = t
    · exact Or.inr ⟨a, ha, by show up1 A.2.1 t (nI a) u = _; rw [q, up1_at]⟩
    · have := h.2.1 u hu
      show up1 A.2.1 t (nI a) u = -1 ∨ _
      rw [show up1 A.2.1 t (nI a) u = A.2.1 u from up1_ne _ _ q]
      rcases this with y | ⟨b, hb, y⟩
      · exact Or.inl y
      · exact Or.inr ⟨b, hb, (up1_ne _ _ q).trans y⟩
  · show up1 A.2.1 t (nI a) u = nI b ↔ ∃ r, r < 24 ∧ u ∈ tr_its (joinF lt (tvf (hcount (up1 A.2.1 t (nI a)) a)) 24 A.1 (tn (lfree (aids A.1 ++ []), 0, 1, t, [t]) .leaf .leaf) a 0 (24 * b + r))
    have eT : ∀ v, v ∈ tr_its (tn (lfree (aids A.1 ++ []), 0, 1, t, [t]) .leaf .leaf) ↔ v = t := fun v => by simp [tr_its, n_ls]
    by_cases hb2 : b = a
    · subst hb2
      rw [z3 u, eT]
      by_cases q : u = t
      · rw [q, up1_at]
        exact ⟨fun _ => Or.inr rfl, fun _ => rfl⟩
      · rw [show up1 A.2.1 t (nI b) u = A.2.1 u from up1_ne _ _ q, h.2.2 u b hu hb]
        exact ⟨Or.inl, fun y => y.elim id (fun z => absurd z q)⟩
    · have e : ∀ r, r < 24 → joinF lt (tvf (hcount (up1 A.2.1 t (nI a)) a)) 24 A.1 (tn (lfree (aids A.1 ++ []), 0, 1, t, [t]) .leaf .leaf) a 0 (24 * b + r) = A.1 (24 * b + r) := fun r hr => z2 _ (by omega) (by omega)
      have e2 : (∃ r, r < 24 ∧ u ∈ tr_its (joinF lt (tvf (hcount (up1 A.2.1 t (nI a)) a)) 24 A.1 (tn (lfree (aids A.1 ++ []), 0, 1, t, [t]) .leaf .leaf) a 0 (24 * b + r))) ↔ ∃ r, r < 24 ∧ u ∈ tr_its (A.1 (24 * b + r)) := by
        constructor
        · rintro ⟨r, h1, h2⟩; exact ⟨r, h1, by rw [← e r h1]; exact h2⟩
        · rintro ⟨r, h1, h2⟩; exact ⟨r, h1, by rw [e r h1]; exact h2⟩
      rw [e2]
      by_cases q : u = t
      · rw [q, up1_at]
        constructor
        · intro y
          exact absurd ((nI_eq (by omega) (by omega)).mp y).symm hb2
        · intro y
          have := (h.2.2 t b ht hb).mpr y
          rw [hn] at this
          exact absurd this.symm (nI_nm1 (by omega))
      · rw [show up1 A.2.1 t (nI a) u = A.2.1 u from up1_ne _ _ q]
        exact h.2.2 u b hu hb
