/-! THE TEXT and its TOKENS -/
def run (p : Nat → Bool) : Nat → Nat → Nat
  | 0, a => a
  | n + 1, a => if p a = true then run p n (a + 1) else a
theorem run_ok {p : Nat → Bool} : ∀ (n a : Nat), a ≤ run p n a ∧ run p n a ≤ a + n ∧ (∀ j, a ≤ j → j < run p n a → p j = true) ∧ (run p n a = a + n ∨ p (run p n a) = false)
  | 0, a => ⟨Nat.le_refl _, Nat.le_refl _, fun j h1 h2 => absurd h2 (Nat.not_lt.mpr h1), Or.inl rfl⟩
  | n + 1, a => by
    rw [run]
    by_cases c : p a = true
    · rw [if_pos c]
      obtain ⟨h1, h2, h3, h4⟩ := run_ok (p := p) n (a + 1)
      refine ⟨by omega, by omega, fun j j1 j2 => ?_, h4.imp (fun q => by omega) id⟩
      by_cases e : j = a
      · rw [e]; exact c
      · exact h3 j (by omega) j2
    · rw [if_neg c]
      refine ⟨Nat.le_refl _, by omega, fun j h1 h2 => absurd h2 (Nat.not_lt.mpr h1), Or.inr (by simpa using c)⟩
abbrev Tk : Type := Nat × Nat × List Nat
def chA (tx : List Nat) (a : Nat) : Nat := tx.getD a 0
def blA (tx : List Nat) (a : Nat) : Bool := decide (a < tx.length) && (decide (chA tx a = 10) || decide (chA tx a = 32))
def leA (tx : List Nat) (a : Nat) : Bool := decide (a < tx.length) && (decide (97 ≤ chA tx a) && decide (chA tx a ≤ 122))
def diA (tx : List Nat) (a : Nat) : Bool := decide (a < tx.length) && (decide (48 ≤ chA tx a) && decide (chA tx a ≤ 57))
def sgnB (c : Nat) : Bool := [40, 41, 59, 61, 60, 43, 45, 42].contains c
def bE (tx : List Nat) (a : Nat) : Nat := run (blA tx) (tx.length - a) a
def lE (tx : List Nat) (a : Nat) : Nat := run (leA tx) (tx.length - a) a
def dE (tx : List Nat) (a : Nat) : Nat := run (diA tx) (tx.length - a) a
def subL (tx : List Nat) (a e : Nat) : List Nat := (List.range (e - a)).map (fun i => chA tx (a + i))
/-- the TOKEN at a place, and where it ends -/
def tkA (tx : List Nat) (b : Nat) : Tk × Nat :=
  if leA tx b = true then ((b, if lE tx b - b ≤ 8 then 1 else 4, subL tx b (lE tx b)), lE tx b)
  else if diA tx b = true then ((b, if dE tx b - b ≤ 4 then 2 else 4, subL tx b (dE tx b)), dE tx b)
  else ((b, if sgnB (chA tx b) = true then 3 else 4, [chA tx b]), b + 1)
def tkE (tx : List Nat) : Tk := (tx.length, 0, [])
def tks (tx : List Nat) : Nat → Nat → List Tk
  | 0, _ => [tkE tx]
  | n + 1, a => if bE tx a < tx.length then (tkA tx (bE tx a)).1 :: tks tx n (tkA tx (bE tx a)).2 else [tkE tx]
theorem run_stop {p : Nat → Bool} {L a : Nat} (hp : ∀ j, L ≤ j → p j = false) (ha : a ≤ L) : run p (L - a) a ≤ L ∧ p (run p (L - a) a) = false := by
  obtain ⟨h1, h2, h3, h4⟩ := run_ok (p := p) (L - a) a
  refine ⟨by omega, ?_⟩
  rcases h4 with q | q
  · rw [q]; exact hp _ (by omega)
  · exact q
theorem bl_out {tx : List Nat} (j : Nat) (h : tx.length ≤ j) : blA tx j = false := by unfold blA; rw [decide_eq_false (by omega)]; rfl
theorem le_out {tx : List Nat} (j : Nat) (h : tx.length ≤ j) : leA tx j = false := by unfold leA; rw [decide_eq_false (by omega)]; rfl
theorem di_out {tx : List Nat} (j : Nat) (h : tx.length ≤ j) : diA tx j = false := by unfold diA; rw [decide_eq_false (by omega)]; rfl
theorem run_first {p : Nat → Bool} {n a : Nat} (h : p a = true) (hn : 0 < n) : a < run p n a := by
  obtain ⟨m, rfl⟩ : ∃ m, n = m + 1 := ⟨n - 1, by omega⟩
  rw [run, if_pos h]
  have := (run_ok (p := p) m (a + 1)).1
  omega
theorem tkA_end {tx : List Nat} {b : Nat} (h : b < tx.length) : b < (tkA tx b).2 ∧ (tkA tx b).2 ≤ tx.length ∧ (tkA tx b).1.2.1 ≠ 0 := by
  unfold tkA
  split
  next c =>
    have h1 := (run_stop (p := leA tx) (L := tx.length) (a := b) le_out (by omega)).1
    have h2 := run_first (n := tx.length - b) c (by omega)
    refine ⟨h2, h1, ?_⟩
    show (if _ then 1 else 4) ≠ 0
    split <;> decide
  next c =>
    split
    next c2 =>
      have h1 := (run_stop (p := diA tx) (L := tx.length) (a := b) di_out (by omega)).1
      have h2 := run_first (n := tx.length - b) c2 (by omega)
      refine ⟨h2, h1, ?_⟩
      show (if _ then 2 else 4) ≠ 0
      split <;> decide
    next c2 =>
      refine ⟨Nat.lt_succ_self b, h, ?_⟩
      show (if _ then 3 else 4) ≠ 0
      split <;> decide
theorem tks_more {tx : List Nat} : ∀ (n a : Nat), a ≤ tx.length → tx.length + 1 ≤ n + a → tks tx (n + 1) a = tks tx n a
  | 0, a, ha, hn => by omega
  | n + 1, a, ha, hn => by
    show (if bE tx a < tx.length then (tkA tx (bE tx a)).1 :: tks tx (n + 1) (tkA tx (bE tx a)).2 else [tkE tx]) = (if bE tx a < tx.length then (tkA tx (bE tx a)).1 :: tks tx n (tkA tx (bE tx a)).2 else [tkE tx])
    by_cases c : bE tx a < tx.length
    · rw [if_pos c, if_pos c]
      have h1 := (run_ok (p := blA tx) (tx.length - a) a).1
      obtain ⟨e1, e2, -⟩ := tkA_end c
      have : a ≤ bE tx a := h1
      rw [tks_more n _ e2 (by omega)]
    · rw [if_neg c, if_neg c]
def TT (tx : List Nat) (a : Nat) : List Tk := tks tx 1001 a
theorem TT_eq {tx : List Nat} {a : Nat} (h : tx.length ≤ 1000) (ha : a ≤ tx.length) : TT tx a = if bE tx a < tx.length then (tkA tx (bE tx a)).1 :: TT tx (tkA tx (bE tx a)).2 else [tkE tx] := by
  unfold TT
  rw [tks]
  by_cases c : bE tx a < tx.length
  · rw [if_pos c, if_pos c]
    obtain ⟨e1, e2, -⟩ := tkA_end c
    have : a ≤ bE tx a := (run_ok (p := blA tx) (tx.length - a) a).1
    rw [tks_more 1000 _ e2 (by omega)]
  · rw [if_neg c, if_neg c]
/-- words as numbers: the class's -/
def e32 : List Nat → Nat := fun l => l.foldl (fun a c => a * 32 + (c - 96)) 0
def e37 : List Nat → Nat := fun l => l.foldl (fun a c => 37 * a + (c - 96)) 0
def nmv : List Nat → Nat := fun l => l.foldl (fun a c => 10 * a + (c - 48)) 0
theorem subL_s {tx : List Nat} {a e : Nat} (h : a ≤ e) : subL tx a (e + 1) = subL tx a e ++ [chA tx e] := by
  unfold subL
  rw [show e + 1 - a = (e - a) + 1 by omega, List.range_succ, List.map_append, List.map_singleton, show a + (e - a) = e by omega]
theorem subL_0 {tx : List Nat} {a : Nat} : subL tx a a = [] := by unfold subL; rw [Nat.sub_self]; rfl
theorem subL_len {tx : List Nat} {a e : Nat} : (subL tx a e).length = e - a := by unfold subL; simp
/-- one number, one word -/
def ltr (l : List Nat) : Prop := ∀ c ∈ l, 97 ≤ c ∧ c ≤ 122
theorem enc_inj {b : Nat} {f : Nat → Nat} (hf : ∀ c, 97 ≤ c → c ≤ 122 → 1 ≤ f c ∧ f c < b) (hi : ∀ c c', 97 ≤ c → c ≤ 122 → 97 ≤ c' → c' ≤ 122 → f c = f c' → c = c') : ∀ (l l' : List Nat), ltr l → ltr l' → l.foldr (fun c a => a * b + f c) 0 = l'.foldr (fun c a => a * b + f c) 0 → l = l'
  | [], [], _, _, _ => rfl
  | [], c :: r, _, h', e => by
    have := hf c (h' c List.mem_cons_self).1 (h' c List.mem_cons_self).2
    simp only [List.foldr_nil, List.foldr_cons] at e
    omega
  | c :: r, [], h, _, e => by
    have := hf c (h c List.mem_cons_self).1 (h c List.mem_cons_self).2
    simp only [List.foldr_nil, List.foldr_cons] at e
    omega
  | c :: r, c' :: r', h, h', e => by
    have a1 := h c List.mem_cons_self
    have a2 := h' c' List.mem_cons_self
    have f1 := hf c a1.1 a1.2
    have f2 := hf c' a2.1 a2.2
    simp only [List.foldr_cons] at e
    have m1 : (r.foldr (fun c a => a * b + f c) 0 * b + f c) % b = f c := by rw [Nat.mul_comm, Nat.mul_add_mod, Nat.mod_eq_of_lt f1.2]
    have m2 : (r'.foldr (fun c a => a * b + f c) 0 * b + f c') % b = f c' := by rw [Nat.mul_comm, Nat.mul_add_mod, Nat.mod_eq_of_lt f2.2]
    have d1 : (r.foldr (fun c a => a * b + f c) 0 * b + f c) / b = r.foldr (fun c a => a * b + f c) 0 := by rw [Nat.mul_comm, Nat.mul_add_div (by omega), Nat.div_eq_of_lt f1.2, Nat.add_zero]
    have d2 : (r'.foldr (fun c a => a * b + f c) 0 * b + f c') / b = r'.foldr (fun c a => a * b + f c) 0 := by rw [Nat.mul_comm, Nat.mul_add_div (by omega), Nat.div_eq_of_lt f2.2, Nat.add_zero]
    rw [e] at m1 d1
    have ec : c = c' := hi c c' a1.1 a1.2 a2.1 a2.2 (m1.symm.trans m2)
    have er := enc_inj hf hi r r' (fun x hx => h x (List.mem_cons_of_mem _ hx)) (fun x hx => h' x (List.mem_cons_of_mem _ hx)) (d1.symm.trans d2)
    rw [ec, er]
theorem e32_inj {l l' : List Nat} (h : ltr l) (h' : ltr l') (e : e32 l = e32 l') : l = l' := by
  have k : ∀ l : List Nat, e32 l = l.reverse.foldr (fun c a => a * 32 + (c - 96)) 0 := fun l => by unfold e32; rw [List.foldr_reverse]
  rw [k, k] at e
  have := enc_inj (b := 32) (f := fun c => c - 96) (fun c h1 h2 => ⟨by omega, by omega⟩) (fun c c' h1 h2 h3 h4 e => by omega) l.reverse l'.reverse (fun c hc => h c (List.mem_reverse.mp hc)) (fun c hc => h' c (List.mem_reverse.mp hc)) e
  exact List.reverse_inj.mp this
theorem e37_inj {l l' : List Nat} (h : ltr l) (h' : ltr l') (e : e37 l = e37 l') : l = l' := by
  have k : ∀ l : List Nat, e37 l = l.reverse.foldr (fun c a => a * 37 + (c - 96)) 0 := fun l => by
    unfold e37
    rw [List.foldr_reverse]
    congr 1
    funext a c
    rw [Nat.mul_comm]
  rw [k, k] at e
  have := enc_inj (b := 37) (f := fun c => c - 96) (fun c h1 h2 => ⟨by omega, by omega⟩) (fun c c' h1 h2 h3 h4 e => by omega) l.reverse l'.reverse (fun c hc => h c (List.mem_reverse.mp hc)) (fun c hc => h' c (List.mem_reverse.mp hc)) e
  exact List.reverse_inj.mp this
theorem enc_lt {b : Nat} {f : Nat → Nat} (hf : ∀ c, 97 ≤ c → c ≤ 122 → f c < b) : ∀ l : List Nat, ltr l → l.foldr (fun c a => a * b + f c) 0 < b ^ l.length
  | [], _ => by simp
  | c :: r, h => by
    have a1 := h c List.mem_cons_self
    have f1 := hf c a1.1 a1.2
    have ih := enc_lt hf r (fun x hx => h x (List.mem_cons_of_mem _ hx))
    simp only [List.foldr_cons, List.length_cons]
    rw [Nat.pow_succ]
    have : (r.foldr (fun c a => a * b + f c) 0 + 1) * b ≤ b ^ r.length * b := Nat.mul_le_mul_right b ih
    rw [Nat.add_mul] at this
    omega
theorem e32_lt {l : List Nat} (h : ltr l) (hl : l.length ≤ 8) : e32 l < 2 ^ 40 := by
  have k : e32 l = l.reverse.foldr (fun c a => a * 32 + (c - 96)) 0 := by unfold e32; rw [List.foldr_reverse]
  rw [k]
  have := enc_lt (b := 32) (f := fun c => c - 96) (fun c h1 h2 => by omega) l.reverse (fun c hc => h c (List.mem_reverse.mp hc))
  rw [List.length_reverse] at this
  exact Nat.lt_of_lt_of_le this (Nat.le_trans (Nat.pow_le_pow_right (by decide) hl) (by decide))
theorem e37_lt {l : List Nat} (h : ltr l) (hl : l.length ≤ 8) : e37 l < 2 ^ 42 := by
  have k : e37 l = l.reverse.foldr (fun c a => a * 37 + (c - 96)) 0 := by
    unfold e37
    rw [List.foldr_reverse]
    congr 1
    funext a c
    rw [Nat.mul_comm]
  rw [k]
  have := enc_lt (b := 37) (f := fun c => c - 96) (fun c h1 h2 => by omega) l.reverse (fun c hc => h c (List.mem_reverse.mp hc))
  rw [List.length_reverse] at this
  exact Nat.lt_of_lt_of_le this (Nat.le_trans (Nat.pow_le_pow_right (by decide) hl) (by decide))
/-- the words that mean something, in the class's order -/
def wdl : List (List Nat) := [[], [104, 101, 97, 112], [115, 104, 101, 108, 102], [105, 116, 101, 109], [111, 118, 101, 114], [105, 110], [115, 104, 97, 114, 101], [103, 114, 111, 119, 115], [112, 117, 116], [116, 97, 107, 101], [109, 101, 108, 100], [115, 104, 101, 108, 118, 101], [112, 108, 97, 105, 110], [117, 114, 103, 101, 110, 116], [108, 97, 116, 101], [111, 100, 100], [110, 111, 116], [97, 110, 100], [111, 114], [114, 97, 110, 107], [116, 97, 114, 103, 101, 116], [97, 108, 108]]
theorem wdl_ok : ∀ i ∈ List.range 22, pm_wd.length = 22 ∧ (pm_wd.getD i ("", 0, 0, 0, 0)).2.1 = lN (e32 (wdl.getD i [])) ∧ (wdl.getD i []).length ≤ 8 ∧ ∀ c ∈ wdl.getD i [], 97 ≤ c ∧ c ≤ 122 := by decide +kernel
theorem wdl_nd : ∀ i ∈ List.range 22, ∀ j ∈ List.range 22, wdl.getD i [] = wdl.getD j [] → i = j := by decide +kernel
def wix (l : List Nat) : Nat := (fnd (fun i => decide (wdl.getD i [] = l)) 22).getD 0
theorem wix_at {i : Nat} (hi : i < 22) : wix (wdl.getD i []) = i := by
  unfold wix
  cases e : fnd (fun j => decide (wdl.getD j [] = wdl.getD i [])) 22 with
  | none =>
    have := fnd_none.mp e i hi
    rw [decide_eq_true rfl] at this; cases this
  | some x =>
    obtain ⟨h1, h2⟩ := fnd_lt e
    exact wdl_nd x (List.mem_range.mpr h1) i (List.mem_range.mpr hi) (of_decide_eq_true h2)
theorem wix_is {l : List Nat} {i : Nat} (hi : 0 < i) (hi2 : i < 22) : wix l = i ↔ l = wdl.getD i [] := by
  constructor
  · intro h
    unfold wix at h
    cases e : fnd (fun j => decide (wdl.getD j [] = l)) 22 with
    | none => rw [e] at h; simp at h; omega
    | some x =>
      rw [e] at h
      obtain ⟨h1, h2⟩ := fnd_lt e
      simp at h
      rw [← h]
      exact (of_decide_eq_true h2).symm
  · intro h
    rw [h]; exact wix_at hi2
theorem wix_lt (l : List Nat) : wix l < 22 := by
  unfold wix
  cases e : fnd (fun j => decide (wdl.getD j [] = l)) 22 with
  | none => decide
  | some x => exact (fnd_lt e).1
