/-! THE CLASS'S PARTS as they are made -/
def opS (b : Nat) (S : Nat → Bool) (U : Nat → Nat → Bool) : Nat → Nat → Bool := fun x y => if x = b then S y else if b < x then false else U x y
def unS (S : Nat → Bool) (k : Nat) : Nat → Bool := fun y => if y = k then false else S y
def ttS : Nat → Bool := fun _ => true
theorem opS_mk {b n : Nat} {S : Nat → Bool} {U : Nat → Nat → Bool} (h : b < n) : mkU n (opS b S U) = opS b S U := by
  funext x y
  unfold mkU opS
  by_cases c : n ≤ x
  · rw [if_pos c, if_neg (by omega), if_pos (by omega)]
  · rw [if_neg c]
theorem opS_put {b k : Nat} {S : Nat → Bool} {U : Nat → Nat → Bool} : puU b k (opS b S U) = opS b (unS S k) U := by
  funext x y
  unfold puU opS unS
  by_cases c : x = b
  · rw [if_pos c, if_pos c]
    by_cases c2 : y = k
    · rw [if_pos ⟨c, c2⟩, if_pos c2]
    · rw [if_neg (fun z => c2 z.2), if_neg c2]
  · rw [if_neg c, if_neg c, if_neg (fun z => c z.1)]
theorem B.begun {b : Nat} {U : Nat → Nat → Bool} {h : pm_H} (x : B (b + 1) (opU b U) h) : B (b + 1) (opS b ttS U) h := x.weak (fun a k ha => Or.inl (by
  unfold opS opU ttS
  by_cases c : a = b
  · rw [if_pos c, if_pos c]
  · rw [if_neg c, if_neg c, if_neg (by omega)]))
theorem P0_big {a k : Nat} (h : (PT.getD a []).length ≤ k) : P0 a k = 2000 := by
  unfold P0
  rw [List.getD_eq_getElem?_getD, List.getElem?_eq_none h]; rfl
theorem B.close {b n m : Nat} {S : Nat → Bool} {U : Nat → Nat → Bool} {h : pm_H} (x : B n (opS b S U) h) (h1 : (PT.getD b []).length ≤ m) (h2 : ∀ k ∈ List.range m, S k = false ∨ P0 b k = 2000) : B n (mkU b U) h := x.weak (fun a k ha => by
  unfold opS mkU
  by_cases c : a = b
  · rw [if_pos c, if_pos (by omega), c]
    by_cases c2 : k < m
    · rcases h2 k (List.mem_range.mpr c2) with z | z
      · exact Or.inl z.symm
      · exact Or.inr z
    · exact Or.inr (P0_big (by omega))
  · rw [if_neg c]
    by_cases c2 : b < a
    · rw [if_pos (by omega), if_pos c2]; exact Or.inl rfl
    · rw [if_neg (by omega), if_neg c2]; exact Or.inl rfl)
abbrev namT (n N : Nat) : Prop := K0[n]? = some (0, 3) ∧ K0[n + 1]? = some (2, N) ∧ ((PT.getD n []).length ≤ 2 ∧ P0 n 0 = n + 1 ∧ P0 n 1 = 2000) ∧ PT.getD (n + 1) [] = [] ∧ N ≤ 5000
abbrev lawT (b : Nat) : Prop := K0[b]? = some (0, 1) ∧ rowT (b + 1) 1000 ∧ rowT (b + 3) 64 ∧ (PT.getD b []).length ≤ 3 ∧ P0 b 0 = b + 1 ∧ P0 b 2 = b + 3 ∧ P0 b 1 = 2000
abbrev wrkT (b : Nat) : Prop := K0[b]? = some (0, 9) ∧ rowT (b + 1) 30 ∧ rowT (b + 3) 30 ∧ rowT (b + 5) 30 ∧ (PT.getD b []).length ≤ 4 ∧ P0 b 0 = b + 1 ∧ P0 b 1 = b + 3 ∧ P0 b 2 = b + 5 ∧ P0 b 3 = 2000
abbrev plnT (b : Nat) : Prop := K0[b]? = some (0, 4) ∧ namT (b + 1) 3 ∧ namT (b + 3) 2 ∧ namT (b + 5) 20 ∧ rowT (b + 7) 2 ∧ rowT (b + 9) 20 ∧ rowT (b + 11) 20 ∧ K0[b + 13]? = some (4, 20) ∧ PT.getD (b + 13) [] = [] ∧ lawT (b + 14) ∧ (PT.getD b []).length ≤ 9 ∧ P0 b 0 = b + 1 ∧ P0 b 1 = b + 3 ∧ P0 b 2 = b + 5 ∧ P0 b 3 = b + 7 ∧ P0 b 4 = b + 9 ∧ P0 b 5 = b + 11 ∧ P0 b 6 = b + 13 ∧ P0 b 7 = b + 14 ∧ P0 b 8 = 2000 ∧ ¬ zeC b 8
section CT1
variable {G : pm_G} {d : Nat} {h : pm_H} {n : Nat} {U : Nat → Nat → Bool}
theorem nw_at {h : pm_H} {kd : Nat × Nat} : (pm_nw h kd).1[h.1.length]? = some kd := by
  show (h.1 ++ [kd])[h.1.length]? = _
  rw [List.getElem?_append_right (Nat.le_refl _), Nat.sub_self]; rfl
theorem nw_gi {h : pm_H} {kd : Nat × Nat} {a : Nat} (b : B n U h) (ha : a < n) : gi (pm_nw h kd) a = gi h a := by
  funext j
  show pm_zr h.2.1 h.1.length 0 a j = _
  unfold pm_zr
  rw [b.len, if_neg (by omega)]
theorem c_names {N : Nat} {Q : pm_H → Prop} (b : B n U h) (t : namT n N) (k : ∀ h', B (n + 2) (mkU n U) h' → (∀ a, a < n → gi h' a = gi h a) → Q h') : (pm_nw h (0, 3)).1[h.1.length]? = some (0, 3) ∧ ca G (d + 1) m_X3_init 1 N [.ref h.1.length, .int (nI N)] (pm_nw h (0, 3)) Q := by
  obtain ⟨t1, t2, t3, t4, t5⟩ := t
  have b1 := b.new t1 (Or.inl (by decide))
  have e0 : ∀ a, a < n → gi (pm_nw h (0, 3)) a = gi h a := fun a ha => nw_gi b ha
  refine ⟨nw_at, ?_⟩
  have hl := b.len
  generalize pm_nw h (0, 3) = g at *
  rw [hl]
  have at1 : g.1[n]? = some (0, 3) := b1.at (by omega) t1
  refine ca_wp rfl (Nat.le_of_ble_eq_true rfl) rfl (x_X3_init ⟨by rw [b1.len]; omega, at1, ?_⟩)
  rintro _ rfl
  have b2 : B (n + 1) (opS n ttS U) (si g n 1 0) := (b1.begun).int t1 (Or.inl rfl)
  rw [if_pos (show (0 : Int32) ≤ nI N from (nI_leI (a := 0) (by decide) (by omega)).mpr (Nat.zero_le _))]
  refine ⟨b1.lt, N, nI_pos (by omega), cl_nI (by omega), t5, Nat.le_refl _, ?_⟩
  rintro _ rfl
  have b3 := b2.new t2 (Or.inl (show (2 : Nat) ≠ 1 by decide))
  refine ⟨b3.at (by omega) t1, ?_⟩
  rintro _ rfl
  have e1 : ∀ a, a < n → gi (pm_nw (si g n 1 0) (2, N)) a = gi h a := fun a ha => (nw_gi b2 (by omega)).trans ((pm_u_ne _ _ _ (by omega)).trans (e0 a ha))
  have l1 : g.1.length = n + 1 := b1.len
  rw [l1]
  have b4 : B (n + 2) (mkU n U) (sp (pm_nw (si g n 1 0) (2, N)) n 0 (n + 1)) := by
    have z := (b3.put (a := n) (k := 0) (v := n + 1) (by omega) t3.2.1)
    have z2 : B (n + 2) (opS n (unS ttS 0) U) (sp (pm_nw (si g n 1 0) (2, N)) n 0 (n + 1)) := z.weak (fun a k ha => by
      rw [show puU n 0 (opU (n + 1) (opS n ttS U)) a k = if a = n ∧ k = 0 then false else if a = n + 1 then true else opS n ttS U a k from rfl]
      by_cases c : a = n + 1
      · right; rw [c]; exact P0_nil t4
      · left
        rw [if_neg c, ← opS_put]; rfl)
    exact z2.close (m := 2) t3.1 (fun k hk => by
      rcases (by have := List.mem_range.mp hk; omega : k = 0 ∨ k = 1) with q | q
      · rw [q]; exact Or.inl rfl
      · rw [q]; exact Or.inr t3.2.2)
  exact ⟨rfl, k _ b4 e1⟩
theorem st_row {b N : Nat} {S : Nat → Bool} {Q : pm_H → Prop} (x : B n (opS b S U) h) (hb : b < n) (t : rowT n N) (k : ∀ h', B (n + 2) (opS b S U) h' → (∀ a, a < n → gi h' a = gi h a) → Q h') : (h.1.length < 1000) ∧ ∀ h1 : pm_H, h1 = pm_nw h (0, 6) → (h1.1[h.1.length]? = some (0, 6)) ∧ ca G (d + 2) m_X6_init 1 N [.ref h.1.length, .int (nI N)] h1 Q := by
  refine ⟨x.lt, ?_⟩
  rintro _ rfl
  refine c_row (d := d) x t (fun h3 b3 e3 => k h3 ?_ e3)
  rw [opS_mk hb] at b3
  exact b3
theorem st_nam {b N : Nat} {S : Nat → Bool} {Q : pm_H → Prop} (x : B n (opS b S U) h) (hb : b < n) (t : namT n N) (k : ∀ h', B (n + 2) (opS b S U) h' → (∀ a, a < n → gi h' a = gi h a) → Q h') : (h.1.length < 1000) ∧ ∀ h1 : pm_H, h1 = pm_nw h (0, 3) → (h1.1[h.1.length]? = some (0, 3)) ∧ ca G (d + 1) m_X3_init 1 N [.ref h.1.length, .int (nI N)] h1 Q := by
  refine ⟨x.lt, ?_⟩
  rintro _ rfl
  refine c_names (d := d) x t (fun h3 b3 e3 => k h3 ?_ e3)
  rw [opS_mk hb] at b3
  exact b3
/-- an object begun -/
theorem st_obj {b c : Nat} {S : Nat → Bool} {P : pm_H → Prop} (x : B n (opS b S U) h) (e : K0[n]? = some (0, c)) (k : ∀ h', h'.1[n]? = some (0, c) → B (n + 1) (opU n (opS b S U)) h' → (∀ a, a < n → gi h' a = gi h a) → gp h' = gp (pm_nw h (0, c)) → P h') : (h.1.length < 1000) ∧ ∀ h1 : pm_H, h1 = pm_nw h (0, c) → P h1 := by
  refine ⟨x.lt, ?_⟩
  rintro _ rfl
  refine k _ ?_ (x.new e (Or.inl (show (0 : Nat) ≠ 1 by decide))) (fun a ha => nw_gi x ha) rfl
  rw [← x.len]; exact nw_at
theorem B.st_put {b m v : Nat} {S : Nat → Bool} (x : B n (opS b S U) h) (hb : b < n) (e : P0 b m = v) : B n (opS b (unS S m) U) (sp h b m v) := by
  have z := x.put (a := b) (k := m) (v := v) hb e
  rw [opS_put] at z
  exact z
theorem cLaw {b : Nat} {Q : pm_H → Prop} (x : B (b + 1) (opU b U) h) (t : lawT b) (k : ∀ h', B (b + 5) (mkU b U) h' → (∀ a, a < b → gi h' a = gi h a) → Q h') : ca G (d + 3) m_X1_init 4 1066 [.ref b] h Q := by
  obtain ⟨t1, t2, t3, t4, t5, t6, t7⟩ := t
  refine ca_wp rfl (Nat.le_of_ble_eq_true rfl) rfl (x_X1_init ⟨by rw [x.len]; omega, st_row (d := d) (N := 1000) x.begun (by omega) t2 (fun h3 b3 e3 => ⟨b3.at (by omega) t1, ?_⟩)⟩)
  rintro _ rfl
  have b4 := b3.st_put (m := 0) (v := h.1.length) (by omega) (by rw [x.len]; exact t5)
  rintro _ rfl
  have b5 := b4.int (k := 1) (v := 0) t1 (Or.inl rfl)
  refine st_row (d := d) (N := 64) b5 (by omega) t3 (fun h8 b8 e8 => ⟨b8.at (by omega) t1, ?_⟩)
  rintro _ rfl
  have b9 := b8.st_put (m := 2) (v := h3.1.length) (by omega) (by rw [b3.len]; exact t6)
  refine ⟨rfl, k _ (b9.close (m := 3) t4 (fun k hk => ?_)) (fun a ha => (e8 a (by omega)).trans ((pm_u_ne _ _ _ (by omega)).trans (e3 a (by omega))))⟩
  rcases (by have := List.mem_range.mp hk; omega : k = 0 ∨ k = 1 ∨ k = 2) with q | q | q
  · rw [q]; exact Or.inl rfl
  · rw [q]; exact Or.inr t7
  · rw [q]; exact Or.inl rfl
theorem cWork {b : Nat} {Q : pm_H → Prop} (x : B (b + 1) (opU b U) h) (t : wrkT b) (k : ∀ h', B (b + 7) (mkU b U) h' → (∀ a, a < b → gi h' a = gi h a) → Q h') : ca G (d + 3) m_X10_init 6 93 [.ref b] h Q := by
  obtain ⟨t1, t2, t3, t4, t5, t6, t7, t8, t9⟩ := t
  refine ca_wp rfl (Nat.le_of_ble_eq_true rfl) rfl (x_X10_init ⟨by rw [x.len]; omega, st_row (d := d) (N := 30) x.begun (by omega) t2 (fun h3 b3 e3 => ⟨b3.at (by omega) t1, ?_⟩)⟩)
  rintro _ rfl
  have b4 := b3.st_put (m := 0) (v := h.1.length) (by omega) (by rw [x.len]; exact t6)
  refine st_row (d := d) (N := 30) b4 (by omega) t3 (fun h7 b7 e7 => ⟨b7.at (by omega) t1, ?_⟩)
  rintro _ rfl
  have b8 := b7.st_put (m := 1) (v := h3.1.length) (by omega) (by rw [b3.len]; exact t7)
  refine st_row (d := d) (N := 30) b8 (by omega) t4 (fun h11 b11 e11 => ⟨b11.at (by omega) t1, ?_⟩)
  rintro _ rfl
  have b12 := b11.st_put (m := 2) (v := h7.1.length) (by omega) (by rw [b7.len]; exact t8)
  rintro _ rfl
  have b13 := b12.int (k := 3) (v := 0) t1 (Or.inl rfl)
  refine ⟨rfl, k _ (b13.close (m := 4) t5 (fun k hk => ?_)) (fun a ha => (pm_u_ne _ _ _ (by omega)).trans ((e11 a (by omega)).trans ((e7 a (by omega)).trans (e3 a (by omega)))))⟩
  rcases (by have := List.mem_range.mp hk; omega : k = 0 ∨ k = 1 ∨ k = 2 ∨ k = 3) with q | q | q | q
  · rw [q]; exact Or.inl rfl
  · rw [q]; exact Or.inl rfl
  · rw [q]; exact Or.inl rfl
  · rw [q]; exact Or.inr t9
end CT1
