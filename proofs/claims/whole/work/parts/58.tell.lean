/-! all is cleared, told, copied */ -/
def A0 : AF := (fun _ => .leaf, fun _ => -1, fun _ => -1, fun _ => -1)
theorem aids_A0 : aids A0.1 = [] := by
  cases e : aids A0.1 with
  | nil => rfl
  | cons x y =>
    have : x ∈ aids A0.1 := by rw [e]; exact List.mem_cons_self
    obtain ⟨q, _, h⟩ := aids_mem.mp this
    cases h
theorem aits_A0 : aits A0.1 = [] := by
  cases e : aits A0.1 with
  | nil => rfl
  | cons x y =>
    have : x ∈ aits A0.1 := by rw [e]; exact List.mem_cons_self
    obtain ⟨q, _, h⟩ := aits_mem.mp this
    cases h
theorem okA_A0 : okA A0 0 := by
  refine ⟨⟨?_, ?_, fun t ht => ?_, fun t ht => ?_, fun q _ => ⟨trivial, trivial, fun z => by cases z⟩, trivial, trivial, ?_⟩, fun t _ => Or.inl rfl, fun t a _ ha => ⟨fun q => ?_, fun q => ?_⟩⟩
  · rw [aids_A0]; exact List.nodup_nil
  · rw [aits_A0]; exact List.nodup_nil
  · rw [aits_A0] at ht; cases ht
  · rw [aids_A0] at ht; cases ht
  · decide
  · have q : (-1 : Int32) = nI a := q
    exact absurd q.symm (nI_nm1 (by omega))
  · obtain ⟨r, _, q⟩ := q
    cases q
def tellF (lt : Nat → Nat → Bool) (tvf : Int32 → Nat → Int32 → Int32) (hm : Nat → Nat) : Nat → AF
  | 0 => A0
  | n + 1 => putA lt tvf (tellF lt tvf hm n) n (hm n)
theorem tellF_ok {lt : Nat → Nat → Bool} {tvf : Int32 → Nat → Int32 → Int32} {hm : Nat → Nat} (hpos : ∀ al r g, 0 < tvf al r g) : ∀ n, n ≤ 20 → (∀ t, t < n → hm t < 3) → okA (tellF lt tvf hm n) n ∧ ∀ t, n ≤ t → (tellF lt tvf hm n).2.1 t = -1
  | 0, _, _ => ⟨okA_A0, fun _ _ => rfl⟩
  | n + 1, hn, hh => by
    obtain ⟨h1, h2⟩ := tellF_ok (lt := lt) (tvf := tvf) (hm := hm) hpos n (by omega) (fun t ht => hh t (by omega))
    refine ⟨okA_put h1 (by omega) (hh n (by omega)) (h2 n (Nat.le_refl _)) (by omega) hpos, fun t ht => ?_⟩
    show up1 (tellF lt tvf hm n).2.1 n _ t = -1
    rw [up1_ne _ _ (by omega)]
    exact h2 t (by omega)
section TEL
variable {G : pm_G} {d : Nat} {h : pm_H} {f : Nat}
theorem s_clear {Q : pm_H → Prop} (hF : Fa h f) (k : ∀ M', CF M' f A0 → FX (gi h) M' f → Q (sm h M')) : cv G (d + 2) m_X0_clear [.ref f] h Q := by
  refine cv_wp rfl (Nat.le_of_ble_eq_true rfl) rfl (x_X0_clear ?_)
  refine ⟨hF.1, f_fill (k := 1) hF (by decide) ⟨hF.1, f_fill (f := f) (k := 10) hF (by decide) ⟨hF.1, f_fill (f := f) (k := 12) hF (by decide) ⟨hF.1, f_fill (f := f) (k := 13) hF (by decide) ⟨hF.1, f_fill (f := f) (k := 14) hF (by decide) ⟨hF.1, f_fill (f := f) (k := 15) hF (by decide) ⟨rfl, ?_⟩⟩⟩⟩⟩⟩⟩
  refine k _ ⟨⟨fun q hq => ⟨trivial, ?_⟩, trivial, fun j hj _ => ?_, fun u hu _ => ?_⟩, fun u hu => ⟨?_, ?_, ?_⟩⟩ (fun b hb _ => ?_)
  · simp [fillM, gi, sm, fln, hq]; rfl
  · simp [fillM, gi, sm, fln, hj]
  · simp [fillM, gi, sm, fln, hu]
  · simp [fillM, gi, sm, fln, hu]; rfl
  · simp [fillM, gi, sm, fln, hu]; rfl
  · simp [fillM, gi, sm, fln, hu]; rfl
  · funext j
    have b1 := hb 1 (by decide)
    have b10 := hb 10 (by decide)
    have b12 := hb 12 (by decide)
    have b13 := hb 13 (by decide)
    have b14 := hb 14 (by decide)
    have b15 := hb 15 (by decide)
    simp [fillM, gi, sm, b1, b10, b12, b13, b14, b15]
/-- all that is copied -/
def cpA (M : Nat → Nat → Int32) (f g n : Nat) : Nat → Nat → Int32 := fun a j => if 1 ≤ (a - f) / 2 ∧ (a - f) / 2 ≤ n ∧ a = f + 2 * ((a - f) / 2) ∧ j < fln ((a - f) / 2) then M (g + (a - f)) j else M a j
theorem cpA_0 {M : Nat → Nat → Int32} {f g : Nat} : cpA M f g 0 = M := by
  funext a j; unfold cpA; rw [if_neg (by omega)]
theorem cpA_s {M : Nat → Nat → Int32} {f g n : Nat} (hg : f + 30 < g ∨ g + 30 < f) (hn : n < 15) : cpM (cpA M f g n) (f + 2 * (n + 1)) (g + 2 * (n + 1)) (fln (n + 1)) = cpA M f g (n + 1) := by
  funext a j
  unfold cpM
  by_cases ha : a = f + 2 * (n + 1)
  · subst ha
    have e : (f + 2 * (n + 1) - f) / 2 = n + 1 := by omega
    have e2 : g + 2 * (n + 1) = g + (f + 2 * (n + 1) - f) := by omega
    by_cases hj : j < fln (n + 1)
    · rw [if_pos ⟨rfl, hj⟩]
      unfold cpA
      rw [if_neg (by omega), if_pos ⟨by omega, by omega, by omega, by rw [e]; exact hj⟩, e2]
    · rw [if_neg (fun q => hj q.2)]
      unfold cpA
      rw [if_neg (by omega), if_neg (fun q => hj (by have := q.2.2.2; rw [e] at this; exact this))]
  · rw [if_neg (fun q => ha q.1)]
    unfold cpA
    by_cases q : 1 ≤ (a - f) / 2 ∧ (a - f) / 2 ≤ n ∧ a = f + 2 * ((a - f) / 2) ∧ j < fln ((a - f) / 2)
    · rw [if_pos q, if_pos ⟨q.1, by omega, q.2.2⟩]
    · rw [if_neg q, if_neg (fun z => q ⟨z.1, by omega, z.2.2⟩)]
theorem cpA_at {M : Nat → Nat → Int32} {f g q j : Nat} (hq : 1 ≤ q ∧ q ≤ 15) (hj : j < fln q) : cpA M f g 15 (f + 2 * q) j = M (g + 2 * q) j := by
  have e : (f + 2 * q - f) / 2 = q := by omega
  unfold cpA
  rw [if_pos ⟨by omega, by omega, by omega, by rw [e]; exact hj⟩, show g + (f + 2 * q - f) = g + 2 * q by omega]
theorem LC.move {nx nx' : Nat → Int32} {l : List Nat} (h : LC nx l) (hl : ∀ t ∈ l, nx' t = nx t) : LC nx' l := LC.congr hl h
theorem NC.move {M M' : Nat → Nat → Int32} {f g : Nat} (hM : ∀ q j, 1 ≤ q ∧ q ≤ 15 → j < fln q → M' (f + 2 * q) j = M (g + 2 * q) j) : ∀ {T : Tr} {p : Int32}, NC M g p T → NC M' f p T
  | .leaf, _, _ => trivial
  | .inner _ k _ l r, p, ⟨⟨h0, h1, h2, h3, h4, h5, h6, h7, h8, h9, h10, h11⟩, hl, hr⟩ => by
    have e : ∀ q, 1 ≤ q ∧ q ≤ 9 → M' (f + 2 * q) k.1 = M (g + 2 * q) k.1 := fun q hq => hM q k.1 ⟨hq.1, by omega⟩ (by unfold fln; rw [if_pos hq.2]; exact h0)
    have e2 : ∀ q t, q = 11 ∨ q = 12 → t < 20 → M' (f + 2 * q) t = M (g + 2 * q) t := fun q t hq ht => hM q t (by omega) (by unfold fln; rw [if_neg (by omega), if_neg (by omega)]; exact ht)
    refine ⟨⟨h0, (e 1 (by decide)).trans h1, (e 2 (by decide)).trans h2, fun q => (e 3 (by decide)).trans (h3 q), (e 4 (by decide)).trans h4, fun q => (e 5 (by decide)).trans (h5 q), (e 6 (by decide)).trans h6, LC.congr (fun t ht => e2 11 t (Or.inl rfl) (h8 t ht).2) h7, fun t ht => ⟨(e2 12 t (Or.inr rfl) (h8 t ht).2).trans (h8 t ht).1, (h8 t ht).2⟩, (e 7 (by decide)).trans h9, (e 8 (by decide)).trans h10, (e 9 (by decide)).trans h11⟩, hl.move hM, hr.move hM⟩
theorem CF.move {M M' : Nat → Nat → Int32} {f g : Nat} {A : AF} (hM : ∀ q j, 1 ≤ q ∧ q ≤ 15 → j < fln q → M' (f + 2 * q) j = M (g + 2 * q) j) (h : CF M g A) : CF M' f A := by
  refine ⟨⟨fun q hq => ⟨(h.1.1 q hq).1.move hM, (hM 10 q (by decide) hq).trans (h.1.1 q hq).2⟩, trivial, fun j hj hj2 => (hM 1 j (by decide) hj).trans (h.1.2.2.1 j hj hj2), fun u hu hu2 => (hM 12 u (by decide) hu).trans (h.1.2.2.2 u hu hu2)⟩, fun u hu => ⟨?_, ?_, ?_⟩⟩
  · exact (hM 13 u (by decide) hu).trans (h.2 u hu).1
  · exact (hM 14 u (by decide) hu).trans (h.2 u hu).2.1
  · exact (hM 15 u (by decide) hu).trans (h.2 u hu).2.2
theorem cv_mono {mi : pm_I} {av : List Value} {P Q : pm_H → Prop} (hc : cv G d mi av h P) (hPQ : ∀ h1, P h1 → Q h1) : cv G d mi av h Q := Ct.mono hc fun _ _ q => ⟨q.1, hPQ _ q.2⟩
theorem cp_step {Q : pm_H → Prop} {g n : Nat} (hF : Fa h f) (hG : Fa h g) (hg : f + 30 < g ∨ g + 30 < f) (hn : n < 15) (k : Q (sm h (cpA (gi h) f g (n + 1)))) : h.1[f]? = some (0, 0) ∧ h.1[g]? = some (0, 0) ∧ h.1[gp h f (n + 1)]? = some (0, 6) ∧ cv G (d + 1) m_X6_copyFrom [.ref (gp h f (n + 1)), .ref (gp h g (n + 1))] (sm h (cpA (gi h) f g n)) Q := by
  refine ⟨hF.1, hG.1, f_copy (h := sm h (cpA (gi h) f g n)) (f := f) (g := g) (k := n + 1) hF hG (by omega) ?_⟩
  rw [show gi (sm h (cpA (gi h) f g n)) = cpA (gi h) f g n from rfl, cpA_s hg hn]
  exact k
theorem s_copyFrom {Q : pm_H → Prop} {g : Nat} {A : AF} (hF : Fa h f) (hG : Fa h g) (hg : f + 30 < g ∨ g + 30 < f) (hA : CF (gi h) g A) (k : ∀ M', CF M' f A → FX (gi h) M' f → Q (sm h M')) : cv G (d + 2) m_X0_copyFrom [.ref f, .ref g] h Q := by
  refine cv_wp rfl (Nat.le_of_ble_eq_true rfl) rfl (x_X0_copyFrom ?_)
  have s0 := cp_step (G := G) (d := d) (n := 0) hF hG hg (by decide) (Q := fun h1 => h1 = sm h (cpA (gi h) f g 1)) rfl
  rw [cpA_0] at s0
  refine ⟨hF.1, hG.1, s0.2.2.1, cv_mono s0.2.2.2 ?_⟩
  rintro _ rfl
  have st := fun n (hn : n < 15) => cp_step (G := G) (d := d) (n := n) hF hG hg hn (Q := fun h1 => h1 = sm h (cpA (gi h) f g (n + 1))) rfl
  refine ⟨hF.1, hG.1, (st 1 (by decide)).2.2.1, cv_mono (st 1 (by decide)).2.2.2 ?_⟩; rintro _ rfl
  refine ⟨hF.1, hG.1, (st 2 (by decide)).2.2.1, cv_mono (st 2 (by decide)).2.2.2 ?_⟩; rintro _ rfl
  refine ⟨hF.1, hG.1, (st 3 (by decide)).2.2.1, cv_mono (st 3 (by decide)).2.2.2 ?_⟩; rintro _ rfl
  refine ⟨hF.1, hG.1, (st 4 (by decide)).2.2.1, cv_mono (st 4 (by decide)).2.2.2 ?_⟩; rintro _ rfl
  refine ⟨hF.1, hG.1, (st 5 (by decide)).2.2.1, cv_mono (st 5 (by decide)).2.2.2 ?_⟩; rintro _ rfl
  refine ⟨hF.1, hG.1, (st 6 (by decide)).2.2.1, cv_mono (st 6 (by decide)).2.2.2 ?_⟩; rintro _ rfl
  refine ⟨hF.1, hG.1, (st 7 (by decide)).2.2.1, cv_mono (st 7 (by decide)).2.2.2 ?_⟩; rintro _ rfl
  refine ⟨hF.1, hG.1, (st 8 (by decide)).2.2.1, cv_mono (st 8 (by decide)).2.2.2 ?_⟩; rintro _ rfl
  refine ⟨hF.1, hG.1, (st 9 (by decide)).2.2.1, cv_mono (st 9 (by decide)).2.2.2 ?_⟩; rintro _ rfl
  refine ⟨hF.1, hG.1, (st 10 (by decide)).2.2.1, cv_mono (st 10 (by decide)).2.2.2 ?_⟩; rintro _ rfl
  refine ⟨hF.1, hG.1, (st 11 (by decide)).2.2.1, cv_mono (st 11 (by decide)).2.2.2 ?_⟩; rintro _ rfl
  refine ⟨hF.1, hG.1, (st 12 (by decide)).2.2.1, cv_mono (st 12 (by decide)).2.2.2 ?_⟩; rintro _ rfl
  refine ⟨hF.1, hG.1, (st 13 (by decide)).2.2.1, cv_mono (st 13 (by decide)).2.2.2 ?_⟩; rintro _ rfl
  refine ⟨hF.1, hG.1, (st 14 (by decide)).2.2.1, cv_mono (st 14 (by decide)).2.2.2 ?_⟩; rintro _ rfl
  refine ⟨rfl, k _ (CF.move (g := g) (fun q j hq hj => cpA_at hq hj) hA) (fun b hb _ => ?_)⟩
  funext j
  unfold cpA
  rw [if_neg (fun q => hb ((b - f) / 2) ⟨q.1, q.2.1⟩ q.2.2.1)]
end TEL
