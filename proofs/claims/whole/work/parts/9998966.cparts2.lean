/-! THE CLASS'S PARTS: plan, Forest, Trial, Reader, Tape -/
section CT2
variable {G : pm_G} {d : Nat} {h : pm_H} {n : Nat} {U : Nat → Nat → Bool}
theorem B.arr {b : Nat} {kd : Nat × Nat} {S : Nat → Bool} (x : B n (opS b S U) h) (e : K0[n]? = some kd) (h1 : kd.1 ≠ 1 ∨ 446 ≤ n) (h2 : PT.getD n [] = []) (hb : b < n) : B (n + 1) (opS b S U) (pm_nw h kd) := (x.new e h1).weak (fun a k ha => by
  by_cases c : a = n
  · right; rw [c]; exact P0_nil h2
  · left
    unfold opU
    rw [if_neg c])
theorem forT : ∀ f ∈ FLs, K0[f]? = some (0, 0) ∧ (PT.getD f []).length = 16 ∧ P0 f 0 = 3 ∧ f + 31 ≤ 446 ∧ ∀ k ∈ List.range 16, 1 ≤ k → rowT (f + (2 * k - 1)) (fln k) ∧ P0 f k = f + (2 * k - 1) := by decide +kernel

theorem cForest {f : Nat} {Q : pm_H → Prop} (x : B (f + 1) (opU f U) h) (hf : f ∈ FLs) (k : ∀ h', B (f + 31) (mkU f U) h' → (∀ a, a < f → gi h' a = gi h a) → Q h') : ca G (d + 3) m_X0_init 30 403 [.ref f, .ref 3] h Q := by
  obtain ⟨t1, t2, t3, t4, t5⟩ := forT f hf
  have T : ∀ k, 1 ≤ k → k < 16 → rowT (f + (2 * k - 1)) (fln k) ∧ P0 f k = f + (2 * k - 1) := fun k h1 h2 => t5 k (List.mem_range.mpr h2) h1
  refine ca_wp rfl (Nat.le_of_ble_eq_true rfl) rfl (x_X0_init ⟨by rw [x.len]; omega, ?_⟩)
  have b0 := x.begun
  have g0 : ∀ a, a < f → gi h a = gi h a := fun a _ => rfl
  refine st_row (d := d) (n := f + 1) (b := f) (N := 24) b0 (by omega) (T 1 (by decide) (by decide)).1 (fun h1 c1 e1 => ⟨c1.at (by omega) t1, ?_⟩)
  rintro _ rfl
  have b1 := c1.st_put (m := 1) (v := h.1.length) (by omega) (by rw [x.len]; exact (T 1 (by decide) (by decide)).2)
  have g1 : ∀ a, a < f → gi h1 a = gi h a := fun a ha => (e1 a (by omega)).trans (g0 a ha)
  refine st_row (d := d) (n := f + 3) (b := f) (N := 24) b1 (by omega) (T 2 (by decide) (by decide)).1 (fun h2 c2 e2 => ⟨c2.at (by omega) t1, ?_⟩)
  rintro _ rfl
  have b2 := c2.st_put (m := 2) (v := h1.1.length) (by omega) (by rw [c1.len]; exact (T 2 (by decide) (by decide)).2)
  have g2 : ∀ a, a < f → gi h2 a = gi h a := fun a ha => (e2 a (by omega)).trans (g1 a ha)
  refine st_row (d := d) (n := f + 5) (b := f) (N := 24) b2 (by omega) (T 3 (by decide) (by decide)).1 (fun h3 c3 e3 => ⟨c3.at (by omega) t1, ?_⟩)
  rintro _ rfl
  have b3 := c3.st_put (m := 3) (v := h2.1.length) (by omega) (by rw [c2.len]; exact (T 3 (by decide) (by decide)).2)
  have g3 : ∀ a, a < f → gi h3 a = gi h a := fun a ha => (e3 a (by omega)).trans (g2 a ha)
  refine st_row (d := d) (n := f + 7) (b := f) (N := 24) b3 (by omega) (T 4 (by decide) (by decide)).1 (fun h4 c4 e4 => ⟨c4.at (by omega) t1, ?_⟩)
  rintro _ rfl
  have b4 := c4.st_put (m := 4) (v := h3.1.length) (by omega) (by rw [c3.len]; exact (T 4 (by decide) (by decide)).2)
  have g4 : ∀ a, a < f → gi h4 a = gi h a := fun a ha => (e4 a (by omega)).trans (g3 a ha)
  refine st_row (d := d) (n := f + 9) (b := f) (N := 24) b4 (by omega) (T 5 (by decide) (by decide)).1 (fun h5 c5 e5 => ⟨c5.at (by omega) t1, ?_⟩)
  rintro _ rfl
  have b5 := c5.st_put (m := 5) (v := h4.1.length) (by omega) (by rw [c4.len]; exact (T 5 (by decide) (by decide)).2)
  have g5 : ∀ a, a < f → gi h5 a = gi h a := fun a ha => (e5 a (by omega)).trans (g4 a ha)
  refine st_row (d := d) (n := f + 11) (b := f) (N := 24) b5 (by omega) (T 6 (by decide) (by decide)).1 (fun h6 c6 e6 => ⟨c6.at (by omega) t1, ?_⟩)
  rintro _ rfl
  have b6 := c6.st_put (m := 6) (v := h5.1.length) (by omega) (by rw [c5.len]; exact (T 6 (by decide) (by decide)).2)
  have g6 : ∀ a, a < f → gi h6 a = gi h a := fun a ha => (e6 a (by omega)).trans (g5 a ha)
  refine st_row (d := d) (n := f + 13) (b := f) (N := 24) b6 (by omega) (T 7 (by decide) (by decide)).1 (fun h7 c7 e7 => ⟨c7.at (by omega) t1, ?_⟩)
  rintro _ rfl
  have b7 := c7.st_put (m := 7) (v := h6.1.length) (by omega) (by rw [c6.len]; exact (T 7 (by decide) (by decide)).2)
  have g7 : ∀ a, a < f → gi h7 a = gi h a := fun a ha => (e7 a (by omega)).trans (g6 a ha)
  refine st_row (d := d) (n := f + 15) (b := f) (N := 24) b7 (by omega) (T 8 (by decide) (by decide)).1 (fun h8 c8 e8 => ⟨c8.at (by omega) t1, ?_⟩)
  rintro _ rfl
  have b8 := c8.st_put (m := 8) (v := h7.1.length) (by omega) (by rw [c7.len]; exact (T 8 (by decide) (by decide)).2)
  have g8 : ∀ a, a < f → gi h8 a = gi h a := fun a ha => (e8 a (by omega)).trans (g7 a ha)
  refine st_row (d := d) (n := f + 17) (b := f) (N := 24) b8 (by omega) (T 9 (by decide) (by decide)).1 (fun h9 c9 e9 => ⟨c9.at (by omega) t1, ?_⟩)
  rintro _ rfl
  have b9 := c9.st_put (m := 9) (v := h8.1.length) (by omega) (by rw [c8.len]; exact (T 9 (by decide) (by decide)).2)
  have g9 : ∀ a, a < f → gi h9 a = gi h a := fun a ha => (e9 a (by omega)).trans (g8 a ha)
  refine st_row (d := d) (n := f + 19) (b := f) (N := 72) b9 (by omega) (T 10 (by decide) (by decide)).1 (fun h10 c10 e10 => ⟨c10.at (by omega) t1, ?_⟩)
  rintro _ rfl
  have b10 := c10.st_put (m := 10) (v := h9.1.length) (by omega) (by rw [c9.len]; exact (T 10 (by decide) (by decide)).2)
  have g10 : ∀ a, a < f → gi h10 a = gi h a := fun a ha => (e10 a (by omega)).trans (g9 a ha)
  refine st_row (d := d) (n := f + 21) (b := f) (N := 20) b10 (by omega) (T 11 (by decide) (by decide)).1 (fun h11 c11 e11 => ⟨c11.at (by omega) t1, ?_⟩)
  rintro _ rfl
  have b11 := c11.st_put (m := 11) (v := h10.1.length) (by omega) (by rw [c10.len]; exact (T 11 (by decide) (by decide)).2)
  have g11 : ∀ a, a < f → gi h11 a = gi h a := fun a ha => (e11 a (by omega)).trans (g10 a ha)
  refine st_row (d := d) (n := f + 23) (b := f) (N := 20) b11 (by omega) (T 12 (by decide) (by decide)).1 (fun h12 c12 e12 => ⟨c12.at (by omega) t1, ?_⟩)
  rintro _ rfl
  have b12 := c12.st_put (m := 12) (v := h11.1.length) (by omega) (by rw [c11.len]; exact (T 12 (by decide) (by decide)).2)
  have g12 : ∀ a, a < f → gi h12 a = gi h a := fun a ha => (e12 a (by omega)).trans (g11 a ha)
  refine st_row (d := d) (n := f + 25) (b := f) (N := 20) b12 (by omega) (T 13 (by decide) (by decide)).1 (fun h13 c13 e13 => ⟨c13.at (by omega) t1, ?_⟩)
  rintro _ rfl
  have b13 := c13.st_put (m := 13) (v := h12.1.length) (by omega) (by rw [c12.len]; exact (T 13 (by decide) (by decide)).2)
  have g13 : ∀ a, a < f → gi h13 a = gi h a := fun a ha => (e13 a (by omega)).trans (g12 a ha)
  refine st_row (d := d) (n := f + 27) (b := f) (N := 20) b13 (by omega) (T 14 (by decide) (by decide)).1 (fun h14 c14 e14 => ⟨c14.at (by omega) t1, ?_⟩)
  rintro _ rfl
  have b14 := c14.st_put (m := 14) (v := h13.1.length) (by omega) (by rw [c13.len]; exact (T 14 (by decide) (by decide)).2)
  have g14 : ∀ a, a < f → gi h14 a = gi h a := fun a ha => (e14 a (by omega)).trans (g13 a ha)
  refine st_row (d := d) (n := f + 29) (b := f) (N := 20) b14 (by omega) (T 15 (by decide) (by decide)).1 (fun h15 c15 e15 => ⟨c15.at (by omega) t1, ?_⟩)
  rintro _ rfl
  have b15 := c15.st_put (m := 15) (v := h14.1.length) (by omega) (by rw [c14.len]; exact (T 15 (by decide) (by decide)).2)
  have g15 : ∀ a, a < f → gi h15 a = gi h a := fun a ha => (e15 a (by omega)).trans (g14 a ha)
  rintro _ rfl
  have b16 := b15.st_put (m := 0) (v := 3) (by omega) t3
  refine ⟨rfl, k _ (b16.close (m := 16) (Nat.le_of_eq t2) (fun k hk => Or.inl ?_)) g15⟩
  revert k
  decide
theorem cPlan {b : Nat} {Q : pm_H → Prop} (x : B (b + 1) (opU b U) h) (t : plnT b) (k : ∀ h', B (b + 19) (mkU b U) h' → (∀ a, a < b → gi h' a = gi h a) → gi h' b 8 = 2 → Q h') : ca G (d + 4) m_X4_init 18 1165 [.ref b] h Q := by
  obtain ⟨t0, t1, t2, t3, t4, t5, t6, t7, t8, t9, t10, p0, p1, p2, p3, p4, p5, p6, p7, p8, z8⟩ := t
  refine ca_wp rfl (Nat.le_of_ble_eq_true rfl) rfl (x_X4_init ⟨by rw [x.len]; omega, ?_⟩)
  have b0 := x.begun
  have g0 : ∀ a, a < b → gi h a = gi h a := fun a _ => rfl
  refine st_nam (d := d + 2) (n := b + 1) (b := b) (N := 3) b0 (by omega) t1 (fun h1 c1 e1 => ⟨c1.at (by omega) t0, ?_⟩)
  rintro _ rfl
  have b1 := c1.st_put (m := 0) (v := h.1.length) (by omega) (by rw [x.len]; exact p0)
  have g1 : ∀ a, a < b → gi h1 a = gi h a := fun a ha => (e1 a (by omega)).trans (g0 a ha)
  refine st_nam (d := d + 2) (n := b + 3) (b := b) (N := 2) b1 (by omega) t2 (fun h2 c2 e2 => ⟨c2.at (by omega) t0, ?_⟩)
  rintro _ rfl
  have b2 := c2.st_put (m := 1) (v := h1.1.length) (by omega) (by rw [c1.len]; exact p1)
  have g2 : ∀ a, a < b → gi h2 a = gi h a := fun a ha => (e2 a (by omega)).trans (g1 a ha)
  refine st_nam (d := d + 2) (n := b + 5) (b := b) (N := 20) b2 (by omega) t3 (fun h3 c3 e3 => ⟨c3.at (by omega) t0, ?_⟩)
  rintro _ rfl
  have b3 := c3.st_put (m := 2) (v := h2.1.length) (by omega) (by rw [c2.len]; exact p2)
  have g3 : ∀ a, a < b → gi h3 a = gi h a := fun a ha => (e3 a (by omega)).trans (g2 a ha)
  refine st_row (d := d + 1) (n := b + 7) (b := b) (N := 2) b3 (by omega) t4 (fun h4 c4 e4 => ⟨c4.at (by omega) t0, ?_⟩)
  rintro _ rfl
  have b4 := c4.st_put (m := 3) (v := h3.1.length) (by omega) (by rw [c3.len]; exact p3)
  have g4 : ∀ a, a < b → gi h4 a = gi h a := fun a ha => (e4 a (by omega)).trans (g3 a ha)
  refine st_row (d := d + 1) (n := b + 9) (b := b) (N := 20) b4 (by omega) t5 (fun h5 c5 e5 => ⟨c5.at (by omega) t0, ?_⟩)
  rintro _ rfl
  have b5 := c5.st_put (m := 4) (v := h4.1.length) (by omega) (by rw [c4.len]; exact p4)
  have g5 : ∀ a, a < b → gi h5 a = gi h a := fun a ha => (e5 a (by omega)).trans (g4 a ha)
  refine st_row (d := d + 1) (n := b + 11) (b := b) (N := 20) b5 (by omega) t6 (fun h6 c6 e6 => ⟨c6.at (by omega) t0, ?_⟩)
  rintro _ rfl
  have b6 := c6.st_put (m := 5) (v := h5.1.length) (by omega) (by rw [c5.len]; exact p5)
  have g6 : ∀ a, a < b → gi h6 a = gi h a := fun a ha => (e6 a (by omega)).trans (g5 a ha)
  refine ⟨b6.lt, ?_⟩
  rintro _ rfl
  have c7 := b6.arr t7 (Or.inl (by decide)) t8 (by omega)
  refine ⟨c7.at (by omega) t0, ?_⟩
  rintro _ rfl
  have b7 := c7.st_put (m := 6) (v := h6.1.length) (by omega) (by rw [c6.len]; exact p6)
  refine ⟨b7.lt, ?_⟩
  rintro _ rfl
  refine ⟨nw_at, ?_⟩
  rw [c7.len]
  refine cLaw (d := d) (b := b + 14) (b7.new t9.1 (Or.inl (by decide))) t9 (fun h8 c8 e8 => ?_)
  rw [opS_mk (by omega)] at c8
  refine ⟨c8.at (by omega) t0, ?_⟩
  rintro _ rfl
  have b8 := c8.st_put (m := 7) (v := b + 14) (by omega) p7
  rintro _ rfl
  have b9 := b8.int (k := 8) (v := 2) t0 (Or.inr z8)
  refine ⟨rfl, k _ (b9.close (m := 9) t10 (fun k hk => ?_)) (fun a ha => ?_) ?_⟩
  · by_cases q : k = 8
    · rw [q]; exact Or.inr p8
    · have hk := List.mem_range.mp hk
      have : k = 0 ∨ k = 1 ∨ k = 2 ∨ k = 3 ∨ k = 4 ∨ k = 5 ∨ k = 6 ∨ k = 7 := by omega
      rcases this with q | q | q | q | q | q | q | q <;> rw [q] <;> exact Or.inl rfl
  · refine (si_ne (by omega)).trans ((e8 a (by omega)).trans ?_)
    refine (nw_gi b7 (by omega)).trans ?_
    exact (nw_gi (kd := (4, 20)) b6 (by omega)).trans (g6 a ha)
  · rw [si_on]; exact if_pos rfl
/-- TAPE -/
theorem cTape {Q : pm_H → Prop} (x : B 2 (opU 1 U) h) (k : ∀ h', B 3 (mkU 1 U) h' → gi h' 0 = gi h 0 → gi h' 1 1 = 0 → Q h') : ca G (d + 1) m_X7_init 1 1000 [.ref 1] h Q := by
  have t0 : K0[1]? = some (0, 7) := by decide +kernel
  refine ca_wp rfl (Nat.le_of_ble_eq_true rfl) rfl (x_X7_init ⟨by rw [x.len]; decide, x.lt, ?_⟩)
  rintro _ rfl
  have c1' := x.begun.arr (kd := (3, 1000)) (by decide +kernel) (Or.inl (by decide)) (by decide +kernel) (by decide)
  refine ⟨c1'.at (by decide) t0, ?_⟩
  rintro _ rfl
  have b1 := c1'.st_put (m := 0) (v := h.1.length) (by decide) (by rw [x.len]; decide +kernel)
  rintro _ rfl
  have b2 := b1.int (k := 1) (v := 0) t0 (Or.inl rfl)
  rintro _ rfl
  have b3 := b2.int (k := 2) (v := 0) t0 (Or.inl rfl)
  rintro _ rfl
  have b4 := b3.int (k := 3) (v := 0) t0 (Or.inl rfl)
  rintro _ rfl
  have b5 := b4.int (k := 4) (v := 0) t0 (Or.inl rfl)
  rintro _ rfl
  have b6 := b5.st_put (m := 5) (v := 1000) (by decide) (by decide +kernel)
  rintro _ rfl
  have b7 := b6.lng (a := 1) (k := 6) (v := 0)
  rintro _ rfl
  have b8 := b7.int (k := 7) (v := -1) t0 (Or.inr (fun z => z.1 ⟨rfl, Nat.le_refl _⟩))
  rintro _ rfl
  have b9 := b8.int (k := 8) (v := -1) t0 (Or.inr (fun z => z.1 ⟨rfl, by decide⟩))
  refine ⟨rfl, k _ (b9.close (m := 9) (by decide +kernel) (by decide +kernel)) ?_ ?_⟩
  · refine Eq.trans (b := gi (pm_nw h (3, 1000)) 0) ?_ (nw_gi x (by decide))
    rfl
  · rw [si_on, if_neg (by decide), si_on, if_neg (by decide)]
    show gi (si (si (si (si _ 1 1 0) 1 2 0) 1 3 0) 1 4 0) 1 1 = 0
    rw [si_on, if_neg (by decide), si_on, if_neg (by decide), si_on, if_neg (by decide), si_on]
    exact if_pos rfl
end CT2
