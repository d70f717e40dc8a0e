/-! JOIN -/
def mx (x y : Int32) : Int32 := if x < y then y else x
def joinF (lt : Nat → Nat → Bool) (tv : Nat → Int32 → Int32) : Nat → Hs → Tr → Nat → Nat → Hs
  | 0, hs, _, _, _ => hs
  | n + 1, hs, T, a, r => if isL (hs (24 * a + r)) = true then up1 hs (24 * a + r) T
    else joinF lt tv n (up1 hs (24 * a + r) .leaf) (siftT lt (lfree (aids hs ++ tr_ids T), r + 1, tv (r + 1) (mx (tr_tg (hs (24 * a + r))) (tr_tg T)), 0, []) (hs (24 * a + r)) T) a (r + 1)
theorem trw_pos {T : Tr} {r : Nat} (h : isL T = false) : trw T r = 2 ^ r := by
  unfold trw
  rw [h]; rfl
theorem pow_9 {r : Nat} (h : 2 ^ r ≤ 1000) : r ≤ 9 := by
  apply Classical.byContradiction
  intro q
  have : 2 ^ 10 ≤ 2 ^ r := Nat.pow_le_pow_right (by decide) (by omega)
  omega
theorem wf.rk {hs : Hs} {T : Tr} {w : Nat} (h : wf hs T w) (hT : isL T = false) (hw : w ≤ 1000) : tr_rk T ≤ 9 := by
  have := h.2.2.2.2.2.2.2
  rw [trw_pos hT] at this
  exact pow_9 (by omega)
theorem isL_leaf {T : Tr} (h : isL T = true) : T = .leaf := by
  cases T with
  | leaf => rfl
  | inner => cases h
theorem wf_join {lt : Nat → Nat → Bool} {hs : Hs} {T : Tr} {w a r : Nat} {tg : Int32} (h : wf hs T w) (hT : isL T = false) (hr : tr_rk T = r) (hw : w ≤ 1000) (ha : a < 3) (hX : isL (hs (24 * a + r)) = false) (htg : 0 < tg) :
    r ≤ 9 ∧ lfree (aids hs ++ tr_ids T) < 24 ∧ lfree (aids hs ++ tr_ids T) ∉ aids hs ++ tr_ids T ∧ (∀ j, j < lfree (aids hs ++ tr_ids T) → j ∈ aids hs ++ tr_ids T) ∧
    (tr_ids (tn (lfree (aids hs ++ tr_ids T), r + 1, tg, 0, []) (hs (24 * a + r)) T)).Nodup ∧ (tr_its (tn (lfree (aids hs ++ tr_ids T), r + 1, tg, 0, []) (hs (24 * a + r)) T)).Nodup ∧ (tr_its (tn (lfree (aids hs ++ tr_ids T), r + 1, tg, 0, []) (hs (24 * a + r)) T)).length ≤ 20 ∧ TR (tn (lfree (aids hs ++ tr_ids T), r + 1, tg, 0, []) (hs (24 * a + r)) T) ∧
    ∃ k' l' r' m, siftF lt 400 (lfree (aids hs ++ tr_ids T), r + 1, tg, 0, []) (hs (24 * a + r)) T = some (k', l', r', m) ∧ siftT lt (lfree (aids hs ++ tr_ids T), r + 1, tg, 0, []) (hs (24 * a + r)) T = tn k' l' r' ∧ m ≤ 1000 ∧ k'.1 = lfree (aids hs ++ tr_ids T) ∧ n_rk k' = r + 1 ∧ n_tg k' = tg ∧
      (∀ j ∈ tr_ids (tn k' l' r'), j ∈ tr_ids (tn (lfree (aids hs ++ tr_ids T), r + 1, tg, 0, []) (hs (24 * a + r)) T)) ∧ wf (up1 hs (24 * a + r) .leaf) (tn k' l' r') w := by
  have hr9 : r ≤ 9 := hr ▸ h.rk hT hw
  have hq : 24 * a + r < 72 := by omega
  have hfew := h.few
  obtain ⟨f1, f2, f3⟩ := lfree_ok (us := aids hs ++ tr_ids T) (by omega)
  obtain ⟨h1, h2, h3, h3', h4, h5, h6, h7⟩ := h
  generalize hj : lfree (aids hs ++ tr_ids T) = j at *
  have pi := aids_up (hs := hs) (q := 24 * a + r) .leaf hq
  have pt := aits_up (hs := hs) (q := 24 * a + r) .leaf hq
  have ps := wsum_up (hs := hs) (q := 24 * a + r) .leaf hq
  obtain ⟨x1, x2, x3⟩ := h4 (24 * a + r) hq
  have x4 := x3 hX
  generalize hXe : hs (24 * a + r) = X at *
  have pi2 : (aids (up1 hs (24 * a + r) .leaf) ++ (tr_ids X ++ tr_ids T)).Perm (aids hs ++ tr_ids T) := by
    rw [← List.append_assoc]; exact List.Perm.append_right _ pi
  have pt2 : (aits (up1 hs (24 * a + r) .leaf) ++ (tr_its X ++ tr_its T)).Perm (aits hs ++ tr_its T) := by
    rw [← List.append_assoc]; exact List.Perm.append_right _ pt
  have n1 := pi2.nodup_iff.mpr h1
  have n2 := pt2.nodup_iff.mpr h2
  obtain ⟨n3, n4, n5⟩ := List.nodup_append.mp n1
  obtain ⟨m3, m4, m5⟩ := List.nodup_append.mp n2
  have hjx : j ∉ tr_ids X ++ tr_ids T := fun q => f2 (pi2.mem_iff.mp (List.mem_append_right _ q))
  have hid : (tr_ids (tn (j, r + 1, tg, 0, []) X T)).Nodup := List.nodup_cons.mpr ⟨hjx, n4⟩
  have hit : (tr_its (tn (j, r + 1, tg, 0, []) X T)).Nodup := m4
  have hil : (tr_its (tn (j, r + 1, tg, 0, []) X T)).length ≤ 20 := by
    show (tr_its X ++ tr_its T).length ≤ 20
    have := pt2.length_eq
    rw [List.length_append] at this
    omega
  have hTR : TR (tn (j, r + 1, tg, 0, []) X T) := ⟨Or.inr (by show tr_rk X < r + 1; omega), Or.inr (by show tr_rk T < r + 1; omega), x2, h6⟩
  obtain ⟨k', l', r', m, e1, e2, e3⟩ := siftT_ok (lt := lt) x1 h5 hTR (by show r + 1 ≤ 16; omega) htg hid hil
  obtain ⟨g1, g2, g3, g4, g5, g6, g7, g8⟩ := siftF_spec 400 _ _ _ _ _ _ _ e1 x1 h5 hid htg hTR (Or.inl rfl)
  refine ⟨hr9, f1, f2, f3, hid, hit, hil, hTR, k', l', r', m, e1, e2, e3, g1.1, g1.2.1, g1.2.2, g2, ?_⟩
  have p3 : (aits (up1 hs (24 * a + r) .leaf) ++ tr_its (tn k' l' r')).Perm (aits hs ++ tr_its T) := (List.Perm.append_left _ g4).trans pt2
  have hsubj : ∀ y ∈ tr_ids (tn k' l' r'), y = j ∨ y ∈ tr_ids X ++ tr_ids T := fun y hy => List.mem_cons.mp (g2 y hy)
  refine ⟨List.nodup_append.mpr ⟨n3, g3, fun x hx y hy q => ?_⟩, p3.nodup_iff.mpr h2, fun t ht => h3 t (p3.mem_iff.mp ht), fun y hy => ?_, fun q hq2 => ?_, ?_, g7, ?_⟩
  · rcases hsubj y hy with z | z
    · exact f2 (pi2.mem_iff.mp (List.mem_append_left _ (by rw [← z, ← q]; exact hx)))
    · exact n5 x hx y z q
  · rcases List.mem_append.mp hy with z | z
    · exact h3' y (pi2.mem_iff.mp (List.mem_append_left _ z))
    · rcases hsubj y z with z | z
      · rw [z]; exact f1
      · exact h3' y (pi2.mem_iff.mp (List.mem_append_right _ z))
  · by_cases z : q = 24 * a + r
    · rw [z, up1_at]
      exact ⟨trivial, trivial, fun y => by cases y⟩
    · rw [up1_ne hs _ z]
      exact h4 q hq2
  · obtain ⟨z1, z2⟩ := g8 (Or.inr (fun y => by rw [hX] at y; cases y.1))
    exact ⟨⟨z1, z2, by rw [g1.2.2]; exact htg⟩, g5, g6⟩
  · have e : tr_rk (tn k' l' r') = r + 1 := g1.2.1
    rw [e, trw_pos (T := tn k' l' r') rfl, Nat.pow_succ]
    rw [trw_pos hT, hr] at h7
    rw [trw_pos hX, show (24 * a + r) % 24 = r by omega] at ps
    have : trw Std.DTreeMap.Internal.Impl.leaf r = 0 := rfl
    rw [this] at ps
    omega
theorem wf_put {hs : Hs} {T : Tr} {w a r : Nat} (h : wf hs T w) (hr : tr_rk T = r) (hq : 24 * a + r < 72) (hr2 : r < 24) (hX : isL (hs (24 * a + r)) = true) : wf (up1 hs (24 * a + r) T) .leaf w := by
  have h := h
  obtain ⟨h1, h2, h3, h3', h4, h5, h6, h7⟩ := h
  have pi := aids_up (hs := hs) (q := 24 * a + r) T hq
  have pt := aits_up (hs := hs) (q := 24 * a + r) T hq
  have ps := wsum_up (hs := hs) (q := 24 * a + r) T hq
  have hl := isL_leaf hX
  rw [hl] at pi pt ps
  have pi2 : (aids (up1 hs (24 * a + r) T) ++ tr_ids .leaf).Perm (aids hs ++ tr_ids T) := pi.trans List.perm_append_comm
  have pt2 : (aits (up1 hs (24 * a + r) T) ++ tr_its .leaf).Perm (aits hs ++ tr_its T) := pt.trans List.perm_append_comm
  refine ⟨pi2.nodup_iff.mpr h1, pt2.nodup_iff.mpr h2, fun t ht => h3 t (pt2.mem_iff.mp ht), fun t ht => h3' t (pi2.mem_iff.mp ht), fun q hq2 => ?_, trivial, trivial, ?_⟩
  · by_cases z : q = 24 * a + r
    · rw [z, up1_at]
      exact ⟨h5, h6, fun _ => by rw [hr]; omega⟩
    · rw [up1_ne hs _ z]
      exact h4 q hq2
  · have e0 : ∀ x, trw Std.DTreeMap.Internal.Impl.leaf x = 0 := fun _ => rfl
    rw [show (24 * a + r) % 24 = r by omega, e0] at ps
    rw [e0]
    rw [hr] at h7
    omega
