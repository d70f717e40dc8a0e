/-! TREES: a node is its number, RANK, TARGET, the item whose KEY is the CKEY, the LIST -/
abbrev Nd : Type := Nat × Nat × Int32 × Nat × List Nat
abbrev Tr : Type := Std.DTreeMap.Internal.Impl Nd (fun _ => Unit)
abbrev tn (k : Nd) (l r : Tr) : Tr := .inner 0 k () l r
abbrev n_rk (k : Nd) : Nat := k.2.1
abbrev n_tg (k : Nd) : Int32 := k.2.2.1
abbrev n_ld (k : Nd) : Nat := k.2.2.2.1
abbrev n_ls (k : Nd) : List Nat := k.2.2.2.2
def tr_ids : Tr → List Nat
  | .leaf => []
  | .inner _ k _ l r => k.1 :: (tr_ids l ++ tr_ids r)
def tr_its : Tr → List Nat
  | .leaf => []
  | .inner _ k _ l r => n_ls k ++ (tr_its l ++ tr_its r)
def tr_no : Tr → Int32
  | .leaf => -1
  | .inner _ k _ _ _ => nI k.1
def tr_ld : Tr → Nat
  | .leaf => 0
  | .inner _ k _ _ _ => n_ld k
def tr_rk : Tr → Nat
  | .leaf => 0
  | .inner _ k _ _ _ => n_rk k
def tr_tg : Tr → Int32
  | .leaf => 0
  | .inner _ k _ _ _ => n_tg k
def isL : Tr → Bool
  | .leaf => true
  | .inner .. => false
/-- which child is drawn from, which one is the other -/
def swp (lt : Nat → Nat → Bool) (l r : Tr) : Bool := isL l || (!isL r && lt (tr_ld r) (tr_ld l))
/-- SIFT, by a budget; with how many looks at a node it takes -/
def siftF (lt : Nat → Nat → Bool) : Nat → Nd → Tr → Tr → Option (Nd × Tr × Tr × Nat)
  | 0, _, _, _ => none
  | n + 1, k, l, r =>
    if ¬ nI (n_ls k).length < n_tg k ∨ (isL l = true ∧ isL r = true) then some (k, l, r, 1)
    else match (if swp lt l r then r else l) with
      | .leaf => none
      | .inner _ c _ lc rc =>
        if isL lc = true ∧ isL rc = true then
          match siftF lt n (k.1, n_rk k, n_tg k, n_ld c, n_ls k ++ n_ls c) .leaf (if swp lt l r then l else r) with
          | none => none
          | some (k', l', r', m) => some (k', l', r', m + 1)
        else match siftF lt n (c.1, n_rk c, n_tg c, n_ld c, []) lc rc with
          | none => none
          | some (c', lc', rc', m1) =>
            match siftF lt n (k.1, n_rk k, n_tg k, n_ld c, n_ls k ++ n_ls c) (tn c' lc' rc') (if swp lt l r then l else r) with
            | none => none
            | some (k', l', r', m) => some (k', l', r', m + m1 + 1)
/-- first and last of a LIST -/
def hdI : List Nat → Int32
  | [] => -1
  | t :: _ => nI t
def laI : List Nat → Int32
  | [] => -1
  | t :: r => match r with
    | [] => nI t
    | _ :: _ => laI r
/-- a LIST as a chain -/
def LC (nx : Nat → Int32) : List Nat → Prop
  | [] => True
  | t :: r => nx t = hdI r ∧ LC nx r
theorem LC.congr {nx nx' : Nat → Int32} : ∀ {l : List Nat}, (∀ t ∈ l, nx' t = nx t) → LC nx l → LC nx' l
  | [], _, _ => trivial
  | t :: r, h, ⟨h1, h2⟩ => ⟨by rw [h t List.mem_cons_self]; exact h1, LC.congr (fun u hu => h u (List.mem_cons_of_mem _ hu)) h2⟩
theorem hdI_app {a b : List Nat} (h : a ≠ []) : hdI (a ++ b) = hdI a := by
  cases a with
  | nil => exact absurd rfl h
  | cons t r => rfl
theorem laI_app {a b : List Nat} (h : b ≠ []) : laI (a ++ b) = laI b := by
  induction a with
  | nil => rfl
  | cons t r ih =>
    cases hr : r ++ b with
    | nil => simp at hr; exact absurd hr.2 h
    | cons x y =>
      rw [List.cons_append, hr, laI, ← hr]
      exact ih
theorem laI_mem {l : List Nat} (h : l ≠ []) : ∃ t ∈ l, laI l = nI t := by
  induction l with
  | nil => exact absurd rfl h
  | cons t r ih =>
    cases r with
    | nil => exact ⟨t, List.mem_cons_self, rfl⟩
    | cons u r' =>
      obtain ⟨v, h1, h2⟩ := ih (by simp)
      exact ⟨v, List.mem_cons_of_mem _ h1, h2⟩
/-- one chain behind another -/
theorem LC.app {nx nx' : Nat → Int32} {b : List Nat} (hb : LC nx b) : ∀ {a : List Nat}, LC nx a → a.Nodup → (∀ t, laI a = nI t → t ∈ a → nx' t = hdI b) → (∀ t ∈ a, laI a ≠ nI t → nx' t = nx t) → (∀ t ∈ b, nx' t = nx t) → (∀ t ∈ a, t < 20) → LC nx' (a ++ b)
  | [], _, _, _, _, h, _ => LC.congr h hb
  | t :: r, ⟨h1, h2⟩, hn, hl, hk, hbk, hlt => by
    obtain ⟨hn1, hn2⟩ := List.nodup_cons.mp hn
    cases r with
    | nil => exact ⟨hl t rfl List.mem_cons_self, LC.congr hbk hb⟩
    | cons u r' =>
      have hne : laI (t :: u :: r') = laI (u :: r') := rfl
      refine ⟨?_, LC.app hb h2 hn2 (fun x h3 h4 => hl x (hne.trans h3) (List.mem_cons_of_mem _ h4)) (fun x h3 h4 => hk x (List.mem_cons_of_mem _ h3) h4) hbk (fun x hx => hlt x (List.mem_cons_of_mem _ hx))⟩
      rw [hk t List.mem_cons_self, h1]
      · rfl
      · intro q
        obtain ⟨v, h3, h4⟩ := laI_mem (l := u :: r') (by simp)
        have h5 : nI v = nI t := h4.symm.trans q
        have h6 := hlt v (List.mem_cons_of_mem _ h3)
        have h7 := hlt t List.mem_cons_self
        rw [nI_eq (by omega) (by omega)] at h5
        rw [h5] at h3
        exact hn1 h3
/-- a node, in the class's rows -/
def NN (M : Nat → Nat → Int32) (f : Nat) (p : Int32) (k : Nd) (x y : Int32) : Prop :=
  k.1 < 24 ∧ M (f + 2) k.1 = nI (n_rk k) ∧ M (f + 4) k.1 = n_tg k ∧ (n_ls k ≠ [] → M (f + 6) k.1 = nI (n_ld k)) ∧ M (f + 8) k.1 = hdI (n_ls k) ∧ (n_ls k ≠ [] → M (f + 10) k.1 = laI (n_ls k)) ∧ M (f + 12) k.1 = nI (n_ls k).length ∧
  LC (M (f + 22)) (n_ls k) ∧ (∀ t ∈ n_ls k, M (f + 24) t = nI k.1 ∧ t < 20) ∧ M (f + 14) k.1 = x ∧ M (f + 16) k.1 = y ∧ M (f + 18) k.1 = p
def NC (M : Nat → Nat → Int32) (f : Nat) : Int32 → Tr → Prop
  | _, .leaf => True
  | p, .inner _ k _ l r => NN M f p k (tr_no l) (tr_no r) ∧ NC M f (nI k.1) l ∧ NC M f (nI k.1) r
/-- two memories that agree on some nodes and items of a Forest -/
def Ag (M M' : Nat → Nat → Int32) (f : Nat) (ids its : List Nat) : Prop :=
  (∀ i ∈ ids, M' (f + 2) i = M (f + 2) i ∧ M' (f + 4) i = M (f + 4) i ∧ M' (f + 6) i = M (f + 6) i ∧ M' (f + 8) i = M (f + 8) i ∧ M' (f + 10) i = M (f + 10) i ∧ M' (f + 12) i = M (f + 12) i ∧ M' (f + 14) i = M (f + 14) i ∧ M' (f + 16) i = M (f + 16) i ∧ M' (f + 18) i = M (f + 18) i) ∧ ∀ t ∈ its, M' (f + 22) t = M (f + 22) t ∧ M' (f + 24) t = M (f + 24) t
theorem NN.congr {M M' : Nat → Nat → Int32} {f : Nat} {p x y : Int32} {k : Nd} (h : NN M f p k x y) (hA : Ag M M' f [k.1] (n_ls k)) : NN M' f p k x y := by
  obtain ⟨h0, h1, h2, h3, h4, h5, h6, h7, h8, h9, h10, h11⟩ := h
  obtain ⟨a1, a2⟩ := hA
  obtain ⟨b1, b2, b3, b4, b5, b6, b7, b8, b9⟩ := a1 k.1 List.mem_cons_self
  exact ⟨h0, b1.trans h1, b2.trans h2, fun q => b3.trans (h3 q), b4.trans h4, fun q => b5.trans (h5 q), b6.trans h6, LC.congr (fun t ht => (a2 t ht).1) h7, fun t ht => ⟨(a2 t ht).2.trans (h8 t ht).1, (h8 t ht).2⟩, b7.trans h9, b8.trans h10, b9.trans h11⟩
theorem Ag.sub {M M' : Nat → Nat → Int32} {f : Nat} {ids its ids' its' : List Nat} (h : Ag M M' f ids its) (h1 : ∀ i ∈ ids', i ∈ ids) (h2 : ∀ i ∈ its', i ∈ its) : Ag M M' f ids' its' := ⟨fun i hi => h.1 i (h1 i hi), fun t ht => h.2 t (h2 t ht)⟩
theorem NC.congr {M M' : Nat → Nat → Int32} {f : Nat} : ∀ {T : Tr} {p : Int32}, NC M f p T → Ag M M' f (tr_ids T) (tr_its T) → NC M' f p T
  | .leaf, _, _, _ => trivial
  | .inner _ k _ l r, p, ⟨h1, h2, h3⟩, hA => by
    refine ⟨h1.congr (hA.sub ?_ ?_), h2.congr (hA.sub ?_ ?_), h3.congr (hA.sub ?_ ?_)⟩ <;> intro i hi <;> simp only [tr_ids, tr_its, List.mem_cons, List.mem_append, List.not_mem_nil, or_false] at hi ⊢
    · exact Or.inl hi
    · exact Or.inl hi
    · exact Or.inr (Or.inl hi)
    · exact Or.inr (Or.inl hi)
    · exact Or.inr (Or.inr hi)
    · exact Or.inr (Or.inr hi)
