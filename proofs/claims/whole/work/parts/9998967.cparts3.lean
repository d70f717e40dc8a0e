/-! THE CLASS'S PARTS: Reader, Trial -/
section CT3
variable {G : pm_G} {d : Nat} {h : pm_H} {n : Nat} {U : Nat → Nat → Bool}
theorem cLawRd {Q : pm_H → Prop} (x : B 57 (opU 56 U) h) (k : ∀ h', B 59 (mkU 56 U) h' → (∀ a, a < 56 → gi h' a = gi h a) → Q h') : ca G (d + 3) m_X2_init 2 65 [.ref 56, .ref 1] h Q := by
  have t0 : K0[56]? = some (0, 2) := by decide +kernel
  refine ca_wp rfl (Nat.le_of_ble_eq_true rfl) rfl (x_X2_init ⟨by rw [x.len]; decide, st_row (d := d) (N := 64) x.begun (by decide) (by decide +kernel) (fun h3 b3 e3 => ⟨b3.at (by decide) t0, ?_⟩)⟩)
  rintro _ rfl
  have b4 := b3.st_put (m := 1) (v := h.1.length) (by decide) (by rw [x.len]; decide +kernel)
  rintro _ rfl
  have b5 := b4.int (k := 2) (v := 0) t0 (Or.inl rfl)
  rintro _ rfl
  have b6 := b5.int (k := 3) (v := 0) t0 (Or.inl rfl)
  rintro _ rfl
  have b7 := b6.int (k := 4) (v := 0) t0 (Or.inl rfl)
  rintro _ rfl
  have b8 := b7.int (k := 5) (v := 1) t0 (Or.inr (fun z => z.2.2 ⟨rfl, rfl⟩))
  rintro _ rfl
  have b9 := b8.st_put (m := 0) (v := 1) (by decide) (by decide +kernel)
  refine ⟨rfl, k _ (b9.close (m := 6) (by decide +kernel) (by decide +kernel)) (fun a ha => ?_)⟩
  refine Eq.trans ?_ (e3 a (by omega))
  exact (si_ne (h := si (si (si (sp h3 56 1 h.1.length) 56 2 0) 56 3 0) 56 4 0) (by omega)).trans ((si_ne (h := si (si (sp h3 56 1 h.1.length) 56 2 0) 56 3 0) (by omega)).trans ((si_ne (h := si (sp h3 56 1 h.1.length) 56 2 0) (by omega)).trans (si_ne (h := sp h3 56 1 h.1.length) (by omega))))
theorem cReader {Q : pm_H → Prop} (x : B 56 (opU 55 U) h) (k : ∀ h', B 59 (mkU 55 U) h' → (∀ a, a < 55 → gi h' a = gi h a) → Q h') : ca G (d + 4) m_X5_init 3 71 [.ref 55, .ref 1] h Q := by
  have t0 : K0[55]? = some (0, 5) := by decide +kernel
  refine ca_wp rfl (Nat.le_of_ble_eq_true rfl) rfl (x_X5_init ⟨by rw [x.len]; decide, x.at (by decide) t0, ?_⟩)
  rintro _ rfl
  have b1 := x.begun.int (k := 2) (v := 0) t0 (Or.inl rfl)
  rintro _ rfl
  have b2 := b1.int (k := 3) (v := 0) t0 (Or.inl rfl)
  rintro _ rfl
  have b3 := b2.int (k := 4) (v := 0) t0 (Or.inl rfl)
  rintro _ rfl
  have b4 := b3.st_put (m := 0) (v := 1) (by decide) (by decide +kernel)
  refine ⟨x.lt, ?_⟩
  rintro _ rfl
  refine ⟨nw_at, ?_⟩
  rw [x.len]
  refine cLawRd (d := d) (b4.new (kd := (0, 2)) (by decide +kernel) (Or.inl (show (0 : Nat) ≠ 1 by decide))) (fun h7 c7 e7 => ?_)
  rw [opS_mk (by decide)] at c7
  refine ⟨c7.at (by decide) t0, ?_⟩
  rintro _ rfl
  have b8 := c7.st_put (m := 1) (v := 56) (by decide) (by decide +kernel)
  refine ⟨rfl, k _ (b8.close (m := 5) (by decide +kernel) (by decide +kernel)) (fun a ha => ?_)⟩
  refine (e7 a (by omega)).trans ((nw_gi (kd := (0, 2)) b4 (by omega)).trans ?_)
  exact (si_ne (h := si (si h 55 2 0) 55 3 0) (by omega)).trans ((si_ne (h := si h 55 2 0) (by omega)).trans (si_ne (h := h) (by omega)))
theorem cTrial {Q : pm_H → Prop} (x : B 91 (opU 90 U) h) (k : ∀ h', B 128 (mkU 90 U) h' → (∀ a, a < 90 → gi h' a = gi h a) → Q h') : ca G (d + 4) m_X8_init 37 492 [.ref 90, .ref 3] h Q := by
  have t0 : K0[90]? = some (0, 8) := by decide +kernel
  refine ca_wp rfl (Nat.le_of_ble_eq_true rfl) rfl (x_X8_init ⟨by rw [x.len]; decide, st_row (d := d + 1) (N := 20) x.begun (by decide) (by decide +kernel) (fun h3 c3 e3 => ⟨c3.at (by decide) t0, ?_⟩)⟩)
  rintro _ rfl
  have b3 := c3.st_put (m := 2) (v := h.1.length) (by decide) (by rw [x.len]; decide +kernel)
  rintro _ rfl
  have b4 := b3.int (k := 3) (v := 0) t0 (Or.inl rfl)
  have g4 : ∀ a, a < 90 → gi (si (sp h3 90 2 h.1.length) 90 3 0) a = gi h a := fun a ha => (si_ne (h := sp h3 90 2 h.1.length) (by omega)).trans (e3 a (by omega))
  refine st_row (d := d + 1) (N := 20) b4 (by decide) (by decide +kernel) (fun h8 c8 e8 => ⟨c8.at (by decide) t0, ?_⟩)
  rintro _ rfl
  have b8 := c8.st_put (m := 4) (v := h3.1.length) (by decide) (by rw [c3.len]; decide +kernel)
  refine st_row (d := d + 1) (N := 30) b8 (by decide) (by decide +kernel) (fun h12 c12 e12 => ⟨c12.at (by decide) t0, ?_⟩)
  rintro _ rfl
  have b12 := c12.st_put (m := 5) (v := h8.1.length) (by decide) (by rw [c8.len]; decide +kernel)
  rintro _ rfl
  have b13 := b12.lng (a := 90) (k := 6) (v := 0)
  rintro _ rfl
  have b14 := b13.st_put (m := 0) (v := 3) (by decide) (by decide +kernel)
  have g14 : ∀ a, a < 90 → gi (sp (sl (sp h12 90 5 h8.1.length) 90 6 0) 90 0 3) a = gi h a := fun a ha => (e12 a (by omega)).trans ((e8 a (by omega)).trans (g4 a ha))
  refine ⟨c12.lt, ?_⟩
  rintro _ rfl
  refine ⟨nw_at, ?_⟩
  rw [c12.len]
  refine cForest (d := d) (f := 97) (b14.new (kd := (0, 0)) (by decide +kernel) (Or.inl (show (0 : Nat) ≠ 1 by decide))) (by decide) (fun h18 c18 e18 => ?_)
  rw [opS_mk (by decide)] at c18
  refine ⟨c18.at (by decide) t0, ?_⟩
  rintro _ rfl
  have b18 := c18.st_put (m := 1) (v := 97) (by decide) (by decide +kernel)
  refine ⟨rfl, k _ (b18.close (m := 7) (by decide +kernel) (by decide +kernel)) (fun a ha => ?_)⟩
  exact (e18 a (by omega)).trans ((nw_gi (kd := (0, 0)) b14 (by omega)).trans (g14 a ha))
end CT3
