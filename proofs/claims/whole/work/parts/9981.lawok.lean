/-! THE LAW's E: what comes out is well formed -/
theorem stT_sort {t : Tk} (h : stT t = true) : t.2.1 ≠ 0 := by
  intro q
  have : stT t = false := by unfold stT tS tW tN fcT tW; rw [q]; rfl
  rw [this] at h; cases h
def Gd (p : PS → PR) : Prop := ∀ s : PS, TsO s.2 → s.1 ≤ 5 → TsO (p s).1.2 ∧ (p s).1.1 ≤ 5
theorem lpB_gd {p : PS → PR} {l : Nat} (h : Gd p) (l0 : 0 < l) : ∀ (n : Nat) (s : PS), TsO s.2 → s.1 ≤ 5 → TsO (lpB p l n s).1.2 ∧ (lpB p l n s).1.1 ≤ 5
  | 0, s, h1, h2 => ⟨h1, h2⟩
  | n + 1, s, h1, h2 => by
    rw [lpB]
    by_cases c : s.1 = 0 ∧ lvT s.2 = l
    · rw [if_pos c]
      have s0 := opT_sort (lvT_59 (ts := s.2) (by omega)).2.2
      obtain ⟨a, b⟩ := h (0, s.2.tail) (h1.at.2.1 s0) (Nat.zero_le _)
      exact lpB_gd h l0 n _ a b
    · rw [if_neg c]; exact ⟨h1, h2⟩
theorem lvl_gd {p : PS → PR} {l : Nat} (h : Gd p) (l0 : 0 < l) : Gd (lvl p l) := by
  intro s h1 h2
  obtain ⟨a, b⟩ := h s h1 h2
  exact lpB_gd h l0 _ _ a b
theorem stp_gd {k : Nat} {s : PS} (h1 : TsO s.2) (h2 : s.1 ≤ 5) (hk : k ≤ 5) (h0 : k = 0 → (hdT s.2).2.1 ≠ 0) : TsO (stp k s).2 ∧ (stp k s).1 ≤ 5 := by
  unfold stp
  by_cases c : s.1 = 0
  · rw [if_pos c]
    by_cases c2 : k = 0
    · rw [if_pos c2]; exact ⟨h1.at.2.1 (h0 c2), Nat.zero_le _⟩
    · rw [if_neg c2]; exact ⟨h1, hk⟩
  · rw [if_neg c]; exact ⟨h1, h2⟩
theorem prt_gd : ∀ D : Nat, Gd (prt D)
  | 0 => by
    intro s h1 h2
    rw [prt]
    by_cases c : s.1 ≠ 0
    · rw [if_pos c]; exact ⟨h1, h2⟩
    · rw [if_neg c]
      refine ⟨h1, ?_⟩
      show (if _ then 5 else 1) ≤ 5
      split <;> decide
  | D + 1 => by
    intro s h1 h2
    have ih := prt_gd D
    rw [prt]
    by_cases c : s.1 ≠ 0
    · rw [if_pos c]; exact ⟨h1, h2⟩
    · rw [if_neg c]
      by_cases c1 : stT (hdT s.2) = false
      · rw [if_pos c1]; exact ⟨h1, show (1 : Nat) ≤ 5 by decide⟩
      · rw [if_neg c1]
        have s0 := stT_sort (t := hdT s.2) (by simpa using c1)
        have ht := h1.at.2.1 s0
        by_cases c2 : tW 16 (hdT s.2) = true
        · rw [if_pos c2]; exact ih (0, s.2.tail) ht (Nat.zero_le _)
        · rw [if_neg c2]
          by_cases c3 : tS 40 (hdT s.2) = true
          · rw [if_pos c3]
            obtain ⟨a, b⟩ := lvl_gd (l := 1) (lvl_gd (l := 2) (lvl_gd (l := 3) (lvl_gd (l := 4) ih (by decide)) (by decide)) (by decide)) (by decide) (0, s.2.tail) ht (Nat.zero_le _)
            refine stp_gd a b ?_ (fun q => ?_)
            · split <;> decide
            · by_cases c4 : tS 41 (hdT (alo (prt D) (0, s.2.tail)).1.2) = true
              · have : (hdT (alo (prt D) (0, s.2.tail)).1.2).2.1 = 3 := tS_sort c4
                intro z
                rw [this] at z
                cases z
              · rw [if_neg c4] at q; cases q
          · rw [if_neg c3]; exact ⟨ht, Nat.zero_le _⟩
def Wo (M : Nat) (p : PS → PR) : Prop := ∀ (s : PS) (e : Nat) (r : List Op), TsO s.2 → s.1 = 0 → (p s).1.1 = 0 → e + M ≤ 63 → okO r (e + 1) → okO ((p s).2 ++ r) e
theorem lpB_wo {p : PS → PR} {l M : Nat} (h : Wo M p) (hg : Gd p) (hs : Sm p) (l0 : 0 < l) : ∀ (n : Nat) (s : PS) (e : Nat) (r : List Op), TsO s.2 → s.1 = 0 → (lpB p l n s).1.1 = 0 → e + (M + 1) ≤ 63 → okO r (e + 1) → okO ((lpB p l n s).2 ++ r) (e + 1)
  | 0, s, e, r, h1, h2, h3, h4, h5 => h5
  | n + 1, s, e, r, h1, h2, h3, h4, h5 => by
    rw [lpB] at h3 ⊢
    by_cases c : s.1 = 0 ∧ lvT s.2 = l
    · rw [if_pos c] at h3 ⊢
      obtain ⟨-, -, o0⟩ := lvT_59 (ts := s.2) (by omega)
      have s0 := opT_sort o0
      obtain ⟨a, b⟩ := hg (0, s.2.tail) (h1.at.2.1 s0) (Nat.zero_le _)
      have f1 : (p (0, s.2.tail)).1.1 = 0 := by
        by_cases z : (p (0, s.2.tail)).1.1 = 0
        · exact z
        · have := (lpB_sm (l := l) hs n (p (0, s.2.tail)).1).2 z
          have h3 : (lpB p l n (p (0, s.2.tail)).1).1.1 = 0 := h3
          rw [this] at h3
          exact h3
      have ih := lpB_wo h hg hs l0 n (p (0, s.2.tail)).1 e r a f1 h3 h4 h5
      show okO (((p (0, s.2.tail)).2 ++ (opT (hdT s.2), 0) :: (lpB p l n (p (0, s.2.tail)).1).2) ++ r) (e + 1)
      rw [List.append_assoc, List.cons_append]
      refine h (0, s.2.tail) (e + 1) _ (h1.at.2.1 s0) rfl f1 (by omega) (Or.inr (Or.inr ⟨?_, by omega, ih⟩))
      rcases opT_lt (hdT s.2) with z | z
      · exact absurd z o0
      · exact z
    · rw [if_neg c] at h3 ⊢; exact h5
theorem lvl_wo {p : PS → PR} {l M : Nat} (h : Wo M p) (hg : Gd p) (hs : Sm p) (l0 : 0 < l) : Wo (M + 1) (lvl p l) := by
  intro s e r h1 h2 h3 h4 h5
  obtain ⟨a, b⟩ := hg s h1 (by omega)
  have f1 : (p s).1.1 = 0 := by
    by_cases z : (p s).1.1 = 0
    · exact z
    · have := (lpB_sm (l := l) hs (if l = 2 then 1 else (p s).1.2.length) (p s).1).2 z
      have h3 : (lpB p l (if l = 2 then 1 else (p s).1.2.length) (p s).1).1.1 = 0 := h3
      rw [this] at h3
      exact h3
  have q := lpB_wo h hg hs l0 (if l = 2 then 1 else (p s).1.2.length) (p s).1 e r a f1 h3 h4 h5
  show okO (((p s).2 ++ (lpB p l (if l = 2 then 1 else (p s).1.2.length) (p s).1).2) ++ r) e
  rw [List.append_assoc]
  exact h s e _ h1 h2 f1 (by omega) q
theorem alo_wo {p : PS → PR} {M : Nat} (h : Wo M p) (hg : Gd p) (hs : Sm p) : Wo (M + 4) (alo p) :=
  lvl_wo (l := 1) (lvl_wo (l := 2) (lvl_wo (l := 3) (lvl_wo (l := 4) h hg hs (by decide)) (lvl_gd hg (by decide)) (lvl_sm hs) (by decide)) (lvl_gd (lvl_gd hg (by decide)) (by decide)) (lvl_sm (lvl_sm hs)) (by decide)) (lvl_gd (lvl_gd (lvl_gd hg (by decide)) (by decide)) (by decide)) (lvl_sm (lvl_sm (lvl_sm hs))) (by decide)
theorem prt_wo : ∀ D : Nat, Wo (4 * D) (prt D)
  | 0 => by
    intro s e r h1 h2 h3 h4 h5
    rw [prt, if_neg (fun q => q h2)] at h3
    have h3 : (if stT (hdT s.2) = true then 5 else 1) = 0 := h3
    split at h3 <;> cases h3
  | D + 1 => by
    intro s e r h1 h2 h3 h4 h5
    have ih := prt_wo D
    have n2 : ¬ s.1 ≠ 0 := fun q => q h2
    rw [prt, if_neg n2] at h3 ⊢
    by_cases c1 : stT (hdT s.2) = false
    · rw [if_pos c1] at h3; cases h3
    · rw [if_neg c1] at h3 ⊢
      have s0 := stT_sort (t := hdT s.2) (by simpa using c1)
      have ht := h1.at.2.1 s0
      by_cases c2 : tW 16 (hdT s.2) = true
      · rw [if_pos c2] at h3 ⊢
        show okO (((prt D (0, s.2.tail)).2 ++ [(3, 0)]) ++ r) e
        rw [List.append_assoc]
        exact ih (0, s.2.tail) e _ ht rfl h3 (by omega) (Or.inr (Or.inl ⟨rfl, by omega, h5⟩))
      · rw [if_neg c2] at h3 ⊢
        by_cases c3 : tS 40 (hdT s.2) = true
        · rw [if_pos c3] at h3 ⊢
          have f1 : (alo (prt D) (0, s.2.tail)).1.1 = 0 := by
            by_cases z : (alo (prt D) (0, s.2.tail)).1.1 = 0
            · exact z
            · have := (stp_sm (if tS 41 (hdT (alo (prt D) (0, s.2.tail)).1.2) = true then 0 else 1) (alo (prt D) (0, s.2.tail)).1).2 z
              have h3 : (stp (if tS 41 (hdT (alo (prt D) (0, s.2.tail)).1.2) = true then 0 else 1) (alo (prt D) (0, s.2.tail)).1).1 = 0 := h3
              rw [this] at h3
              exact h3
          exact alo_wo ih (prt_gd D) (prt_sm D) (0, s.2.tail) e r ht rfl f1 (by omega) h5
        · rw [if_neg c3] at h3 ⊢
          show okO (paO (hdT s.2) :: r) e
          refine Or.inl ⟨?_, by omega, h5⟩
          unfold paO
          by_cases tn : tN (hdT s.2) = true
          · rw [if_pos tn]
            exact Or.inl ⟨rfl, h1.at.1.2.1 (of_decide_eq_true tn)⟩
          · rw [if_neg tn]
            refine Or.inr ⟨rfl, ?_⟩
            cases hfc : fcT (hdT s.2) with
            | none => decide
            | some j => exact fcT_lt hfc
theorem lawE_ok {ts : List Tk} (h : TsO ts) : TsO (lawE ts).2.1 ∧ (lawE ts).1 ≤ 5 ∧ ((lawE ts).1 = 0 → okO (lawE ts).2.2 0 ∧ tS 59 (hdT (lawE ts).2.1) = true) ∧ (lawE ts).2.1.length ≤ ts.length := by
  obtain ⟨a, b⟩ := lvl_gd (l := 1) (lvl_gd (l := 2) (lvl_gd (l := 3) (lvl_gd (l := 4) (prt_gd 5) (by decide)) (by decide)) (by decide)) (by decide) (0, ts) h (Nat.zero_le _)
  have ln := (lvl_sm (l := 1) (lvl_sm (l := 2) (lvl_sm (l := 3) (lvl_sm (l := 4) (prt_sm 5)))) (0, ts)).1
  have a : TsO (alo (prt 5) (0, ts)).1.2 := a
  have b : (alo (prt 5) (0, ts)).1.1 ≤ 5 := b
  have ln : (alo (prt 5) (0, ts)).1.2.length ≤ ts.length := ln
  unfold lawE
  by_cases c : (alo (prt 5) (0, ts)).1.1 ≠ 0
  · rw [if_pos c]; exact ⟨a, b, fun q => absurd q c, ln⟩
  · rw [if_neg c]
    by_cases c2 : tS 59 (hdT (alo (prt 5) (0, ts)).1.2) = true
    · rw [if_pos c2]
      refine ⟨a, Nat.zero_le _, fun _ => ⟨?_, c2⟩, ln⟩
      have := alo_wo (prt_wo 5) (prt_gd 5) (prt_sm 5) (0, ts) 0 [] h rfl (by omega) (by decide) rfl
      rw [List.append_nil] at this
      exact this
    · rw [if_neg c2]; exact ⟨a, show (1 : Nat) ≤ 5 by decide, fun q => absurd (show (1 : Nat) = 0 from q) (by decide), ln⟩
