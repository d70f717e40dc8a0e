/-! HEAPS: a TREE or none for each of 72 slots (24 * HEAP + RANK); one TREE more may be on its way -/
abbrev Hs : Type := Nat → Tr
def up1 {α : Type} (F : Nat → α) (q : Nat) (v : α) : Nat → α := fun j => if j = q then v else F j
theorem up1_at {α : Type} (F : Nat → α) (q : Nat) (v : α) : up1 F q v q = v := if_pos rfl
theorem up1_ne {α : Type} (F : Nat → α) {q j : Nat} (v : α) (h : j ≠ q) : up1 F q v j = F j := if_neg h
theorem flat_congr {F F' : Nat → List Nat} : ∀ {L : List Nat}, (∀ j ∈ L, F' j = F j) → L.flatMap F' = L.flatMap F
  | [], _ => rfl
  | x :: L, h => by
    rw [List.flatMap_cons, List.flatMap_cons, h x List.mem_cons_self, flat_congr fun j hj => h j (List.mem_cons_of_mem _ hj)]
theorem flat_up {F F' : Nat → List Nat} {q : Nat} : ∀ {L : List Nat}, L.Nodup → q ∈ L → (∀ j ∈ L, j ≠ q → F' j = F j) → (L.flatMap F' ++ F q).Perm (F' q ++ L.flatMap F)
  | [], _, h, _ => by cases h
  | x :: L, hn, hq, h => by
    obtain ⟨n1, n2⟩ := List.nodup_cons.mp hn
    rw [List.flatMap_cons, List.flatMap_cons]
    rcases List.mem_cons.mp hq with e | e
    · subst e
      rw [flat_congr (F := F) (F' := F') (L := L) fun j hj => h j (List.mem_cons_of_mem _ hj) (fun z => n1 (z ▸ hj))]
      rw [List.append_assoc]
      exact List.Perm.append_left _ List.perm_append_comm
    · have hx : x ≠ q := fun z => n1 (z ▸ e)
      rw [h x List.mem_cons_self hx, List.append_assoc]
      refine (List.Perm.append_left _ (flat_up n2 e fun j hj => h j (List.mem_cons_of_mem _ hj))).trans ?_
      rw [← List.append_assoc, ← List.append_assoc]
      exact List.Perm.append_right _ List.perm_append_comm
theorem sum_up {F F' : Nat → Nat} {q : Nat} : ∀ {L : List Nat}, L.Nodup → q ∈ L → (∀ j ∈ L, j ≠ q → F' j = F j) → (L.map F').sum + F q = F' q + (L.map F).sum
  | [], _, h, _ => by cases h
  | x :: L, hn, hq, h => by
    obtain ⟨n1, n2⟩ := List.nodup_cons.mp hn
    simp only [List.map_cons, List.sum_cons]
    rcases List.mem_cons.mp hq with e | e
    · subst e
      rw [show L.map F' = L.map F from List.map_congr_left fun j hj => h j (List.mem_cons_of_mem _ hj) (fun z => n1 (z ▸ hj))]
      omega
    · have hx : x ≠ q := fun z => n1 (z ▸ e)
      have := sum_up n2 e fun j hj => h j (List.mem_cons_of_mem _ hj)
      rw [h x List.mem_cons_self hx]
      omega
def aids (hs : Hs) : List Nat := (List.range 72).flatMap (fun q => tr_ids (hs q))
def aits (hs : Hs) : List Nat := (List.range 72).flatMap (fun q => tr_its (hs q))
def trw (T : Tr) (r : Nat) : Nat := if isL T = true then 0 else 2 ^ r
def wsum (hs : Hs) : Nat := ((List.range 72).map (fun q => trw (hs q) (q % 24))).sum
theorem aids_mem {hs : Hs} {j : Nat} : j ∈ aids hs ↔ ∃ q, q < 72 ∧ j ∈ tr_ids (hs q) := by simp [aids]
theorem aits_mem {hs : Hs} {j : Nat} : j ∈ aits hs ↔ ∃ q, q < 72 ∧ j ∈ tr_its (hs q) := by simp [aits]
theorem aids_up {hs : Hs} {q : Nat} (T : Tr) (hq : q < 72) : (aids (up1 hs q T) ++ tr_ids (hs q)).Perm (tr_ids T ++ aids hs) := by
  have := flat_up (F := fun j => tr_ids (hs j)) (F' := fun j => tr_ids (up1 hs q T j)) (q := q) (List.nodup_range (n := 72)) (List.mem_range.mpr hq) (fun j _ hj => by simp only [up1_ne hs T hj])
  simp only [up1_at] at this
  exact this
theorem aits_up {hs : Hs} {q : Nat} (T : Tr) (hq : q < 72) : (aits (up1 hs q T) ++ tr_its (hs q)).Perm (tr_its T ++ aits hs) := by
  have := flat_up (F := fun j => tr_its (hs j)) (F' := fun j => tr_its (up1 hs q T j)) (q := q) (List.nodup_range (n := 72)) (List.mem_range.mpr hq) (fun j _ hj => by simp only [up1_ne hs T hj])
  simp only [up1_at] at this
  exact this
theorem wsum_up {hs : Hs} {q : Nat} (T : Tr) (hq : q < 72) : wsum (up1 hs q T) + trw (hs q) (q % 24) = trw T (q % 24) + wsum hs := by
  have := sum_up (F := fun j => trw (hs j) (j % 24)) (F' := fun j => trw (up1 hs q T j) (j % 24)) (q := q) (List.nodup_range (n := 72)) (List.mem_range.mpr hq) (fun j _ hj => by simp only [up1_ne hs T hj])
  simp only [up1_at] at this
  exact this
/-- all is well with the HEAPS and the TREE on its way; w: how heavy all may be -/
def wf (hs : Hs) (T : Tr) (w : Nat) : Prop :=
  (aids hs ++ tr_ids T).Nodup ∧ (aits hs ++ tr_its T).Nodup ∧ (∀ t ∈ aits hs ++ tr_its T, t < 20) ∧ (∀ j ∈ aids hs ++ tr_ids T, j < 24) ∧
  (∀ q, q < 72 → TW (hs q) ∧ TR (hs q) ∧ (isL (hs q) = false → tr_rk (hs q) = q % 24)) ∧ TW T ∧ TR T ∧ wsum hs + trw T (tr_rk T) ≤ w
theorem nodup_len : ∀ {n : Nat} {l : List Nat}, l.Nodup → (∀ x ∈ l, x < n) → l.length ≤ n
  | 0, l, _, h => by
    cases l with
    | nil => exact Nat.le_refl _
    | cons x r => exact absurd (h x List.mem_cons_self) (Nat.not_lt_zero _)
  | n + 1, l, hn, h => by
    have h1 := nodup_len (n := n) (l := l.erase n) (hn.erase n) (fun x hx => by
      have h2 := (hn.mem_erase_iff).mp hx
      have := h x h2.2
      have := h2.1
      omega)
    by_cases hm : n ∈ l
    · rw [List.length_erase_of_mem hm] at h1; omega
    · rw [List.erase_of_not_mem hm] at h1; omega
theorem ids_le_its : ∀ {T : Tr}, TW T → (tr_ids T).length ≤ (tr_its T).length
  | .leaf, _ => Nat.le_refl _
  | .inner _ k _ l r, ⟨⟨h1, _⟩, h2, h3⟩ => by
    have a := ids_le_its h2
    have b := ids_le_its h3
    have c : 1 ≤ (n_ls k).length := List.length_pos_iff.mpr h1
    simp only [tr_ids, tr_its, List.length_cons, List.length_append]
    omega
theorem flat_le {F F' : Nat → List Nat} : ∀ {L : List Nat}, (∀ j ∈ L, (F j).length ≤ (F' j).length) → (L.flatMap F).length ≤ (L.flatMap F').length
  | [], _ => Nat.le_refl _
  | x :: L, h => by
    rw [List.flatMap_cons, List.flatMap_cons, List.length_append, List.length_append]
    have := h x List.mem_cons_self
    have := flat_le (F := F) (F' := F') (L := L) fun j hj => h j (List.mem_cons_of_mem _ hj)
    omega
theorem wf.few {hs : Hs} {T : Tr} {w : Nat} (h : wf hs T w) : (aids hs ++ tr_ids T).length ≤ 20 ∧ (aits hs ++ tr_its T).length ≤ 20 := by
  obtain ⟨h1, h2, h3, h3', h4, h5, h6, h7⟩ := h
  have a := nodup_len h2 h3
  have b : (aids hs).length ≤ (aits hs).length := flat_le fun q hq => ids_le_its (h4 q (List.mem_range.mp hq)).1
  have c := ids_le_its h5
  rw [List.length_append] at a ⊢
  constructor
  · omega
  · rw [List.length_append]; exact a
theorem sub_len : ∀ {L us : List Nat}, L.Nodup → (∀ x ∈ L, x ∈ us) → L.length ≤ us.length
  | [], _, _, _ => Nat.zero_le _
  | x :: L, us, hn, h => by
    obtain ⟨n1, n2⟩ := List.nodup_cons.mp hn
    have hx := h x List.mem_cons_self
    have := sub_len (us := us.erase x) n2 (fun y hy => by
      have hyx : y ≠ x := fun z => n1 (z ▸ hy)
      exact (List.mem_erase_of_ne hyx).mpr (h y (List.mem_cons_of_mem _ hy)))
    rw [List.length_erase_of_mem hx] at this
    have := List.length_pos_of_mem hx
    rw [List.length_cons]
    omega
/-- the first free number -/
def lfr (us : List Nat) : Nat → Nat → Nat
  | 0, j => j
  | n + 1, j => if j ∈ us then lfr us n (j + 1) else j
def lfree (us : List Nat) : Nat := lfr us 24 0
theorem lfr_ok (us : List Nat) : ∀ (n j : Nat), j ≤ lfr us n j ∧ lfr us n j ≤ j + n ∧ (∀ i, j ≤ i → i < lfr us n j → i ∈ us) ∧ (lfr us n j = j + n ∨ lfr us n j ∉ us)
  | 0, j => ⟨Nat.le_refl _, Nat.le_refl _, fun i h1 h2 => absurd h2 (Nat.not_lt.mpr h1), Or.inl rfl⟩
  | n + 1, j => by
    unfold lfr
    split
    next c =>
      obtain ⟨h1, h2, h3, h4⟩ := lfr_ok us n (j + 1)
      refine ⟨by omega, by omega, fun i q1 q2 => ?_, ?_⟩
      · by_cases z : i = j
        · rw [z]; exact c
        · exact h3 i (by omega) q2
      · rcases h4 with q | q
        · exact Or.inl (by omega)
        · exact Or.inr q
    next c => exact ⟨Nat.le_refl _, by omega, fun i q1 q2 => absurd q2 (Nat.not_lt.mpr q1), Or.inr c⟩
theorem lfree_ok {us : List Nat} (hl : us.length < 24) : lfree us < 24 ∧ lfree us ∉ us ∧ ∀ j, j < lfree us → j ∈ us := by
  obtain ⟨h1, h2, h3, h4⟩ := lfr_ok us 24 0
  have hne : lfr us 24 0 ≠ 24 := fun q => by
    have := sub_len (L := List.range 24) (us := us) List.nodup_range (fun x hx => h3 x (Nat.zero_le _) (by rw [q]; exact List.mem_range.mp hx))
    rw [List.length_range] at this
    omega
  refine ⟨?_, ?_, fun j hj => h3 j (Nat.zero_le _) hj⟩
  · show lfr us 24 0 < 24; omega
  · rcases h4 with q | q
    · exact absurd q (by omega)
    · exact q
