/-! a CHILD's LIST comes behind its parent's -/
/-- only these nodes and items of the Forest have changed -/
def Fr (M M' : Nat → Nat → Int32) (f : Nat) (ids its : List Nat) : Prop :=
  ∀ a j, M' a j = M a j ∨ (∃ q, 1 ≤ q ∧ q ≤ 9 ∧ a = f + 2 * q ∧ j ∈ ids) ∨ ((a = f + 22 ∨ a = f + 24) ∧ j ∈ its)
theorem Fr.rfl' {M : Nat → Nat → Int32} {f : Nat} {ids its : List Nat} : Fr M M f ids its := fun _ _ => Or.inl rfl
theorem Fr.trans {M M1 M2 : Nat → Nat → Int32} {f : Nat} {ids its : List Nat} (h1 : Fr M M1 f ids its) (h2 : Fr M1 M2 f ids its) : Fr M M2 f ids its := fun a j => by
  rcases h2 a j with q | q | q
  · rcases h1 a j with r | r | r
    · exact Or.inl (q.trans r)
    · exact Or.inr (Or.inl r)
    · exact Or.inr (Or.inr r)
  · exact Or.inr (Or.inl q)
  · exact Or.inr (Or.inr q)
theorem Fr.mono {M M' : Nat → Nat → Int32} {f : Nat} {ids its ids' its' : List Nat} (h : Fr M M' f ids its) (h1 : ∀ i ∈ ids, i ∈ ids') (h2 : ∀ i ∈ its, i ∈ its') : Fr M M' f ids' its' := fun a j => by
  rcases h a j with q | ⟨q, q1, q2, q3, q4⟩ | ⟨q, q1⟩
  · exact Or.inl q
  · exact Or.inr (Or.inl ⟨q, q1, q2, q3, h1 j q4⟩)
  · exact Or.inr (Or.inr ⟨q, h2 j q1⟩)
theorem Fr.node {M M' : Nat → Nat → Int32} {f q j : Nat} {ids its : List Nat} (h : Fr M M' f ids its) (hq : q ≤ 9) (hj : j ∉ ids) : M' (f + 2 * q) j = M (f + 2 * q) j := by
  rcases h (f + 2 * q) j with r | ⟨q', r1, r2, r3, r4⟩ | ⟨r, r1⟩
  · exact r
  · exact absurd r4 hj
  · omega
theorem Fr.item {M M' : Nat → Nat → Int32} {f a t : Nat} {ids its : List Nat} (h : Fr M M' f ids its) (ha : a = f + 22 ∨ a = f + 24) (hj : t ∉ its) : M' a t = M a t := by
  rcases h a t with r | ⟨q', r1, r2, r3, r4⟩ | ⟨r, r1⟩
  · exact r
  · omega
  · exact absurd r1 hj
theorem Fr.other {M M' : Nat → Nat → Int32} {f a : Nat} {ids its : List Nat} (h : Fr M M' f ids its) (h1 : ∀ q, 1 ≤ q ∧ q ≤ 9 → a ≠ f + 2 * q) (h2 : a ≠ f + 22) (h3 : a ≠ f + 24) : M' a = M a := by
  funext j
  rcases h a j with r | ⟨q', r1, r2, r3, r4⟩ | ⟨r, r1⟩
  · exact r
  · exact absurd r3 (h1 q' ⟨r1, r2⟩)
  · rcases r with r | r
    · exact absurd r h2
    · exact absurd r h3
theorem Fr.ag {M M' : Nat → Nat → Int32} {f : Nat} {ids its ids' its' : List Nat} (h : Fr M M' f ids its) (h1 : ∀ i ∈ ids', i ∉ ids) (h2 : ∀ i ∈ its', i ∉ its) : Ag M M' f ids' its' :=
  ⟨fun i hi => ⟨h.node (q := 1) (by decide) (h1 i hi), h.node (q := 2) (by decide) (h1 i hi), h.node (q := 3) (by decide) (h1 i hi), h.node (q := 4) (by decide) (h1 i hi), h.node (q := 5) (by decide) (h1 i hi), h.node (q := 6) (by decide) (h1 i hi), h.node (q := 7) (by decide) (h1 i hi), h.node (q := 8) (by decide) (h1 i hi), h.node (q := 9) (by decide) (h1 i hi)⟩,
   fun t ht => ⟨h.item (Or.inl rfl) (h2 t ht), h.item (Or.inr rfl) (h2 t ht)⟩⟩
theorem Fr.nc {M M' : Nat → Nat → Int32} {f : Nat} {ids its : List Nat} {p : Int32} {T : Tr} (h : Fr M M' f ids its) (hT : NC M f p T) (h1 : ∀ i ∈ tr_ids T, i ∉ ids) (h2 : ∀ i ∈ tr_its T, i ∉ its) : NC M' f p T := hT.congr (h.ag h1 h2)
theorem Fr.u {M : Nat → Nat → Int32} {f q j : Nat} {v : Int32} {ids its : List Nat} (hq : 1 ≤ q ∧ q ≤ 9) (hj : j ∈ ids) : Fr M (pm_u M (f + 2 * q) j v) f ids its := fun a i => by
  unfold pm_u
  by_cases ha : a = f + 2 * q
  · rw [if_pos ha]
    by_cases hi : i = j
    · exact Or.inr (Or.inl ⟨q, hq.1, hq.2, ha, hi ▸ hj⟩)
    · rw [if_neg hi]; exact Or.inl rfl
  · rw [if_neg ha]; exact Or.inl rfl
theorem Fr.ui {M : Nat → Nat → Int32} {f b t : Nat} {v : Int32} {ids its : List Nat} (hb : b = f + 22 ∨ b = f + 24) (hj : t ∈ its) : Fr M (pm_u M b t v) f ids its := fun a i => by
  unfold pm_u
  by_cases ha : a = b
  · rw [if_pos ha]
    by_cases hi : i = t
    · exact Or.inr (Or.inr ⟨ha ▸ hb, hi ▸ hj⟩)
    · rw [if_neg hi]; exact Or.inl rfl
  · rw [if_neg ha]; exact Or.inl rfl
section DRW
variable {G : pm_G} {d : Nat} {h : pm_H} {f : Nat}
theorem s_draw2 {Q : pm_H → Prop} {M : Nat → Nat → Int32} {k c : Nd} {p x y xc yc : Int32} (hF : Fa h f) (hk : NN M f p k x y) (hc : NN M f (nI k.1) c xc yc) (hne : k.1 ≠ c.1) (hls : n_ls c ≠ []) (hnd : (n_ls k ++ n_ls c).Nodup) (hlen : (n_ls k ++ n_ls c).length ≤ 20)
    (h8 : gi h (f + 8) k.1 = hdI (n_ls k ++ n_ls c)) (h22 : LC (gi h (f + 22)) (n_ls k ++ n_ls c)) (hfr : ∀ a j, ¬ (a = f + 8 ∧ j = k.1) → ¬ (a = f + 22 ∧ j ∈ n_ls k) → gi h a j = M a j)
    (w : ∀ M', NN M' f p (k.1, n_rk k, n_tg k, n_ld c, n_ls k ++ n_ls c) x y → NN M' f (nI k.1) (c.1, n_rk c, n_tg c, n_ld c, []) xc yc → Fr M M' f [k.1, c.1] (n_ls k ++ n_ls c) → Q (sm h M')) :
    Wp G (m_X0_drawUp, d + 2, 0, 0, fun v h1 => v = none ∧ Q h1) (0, 0) 51 [.ref f, .int (nI c.1), .int (nI k.1), .int (hdI (n_ls c)), .int 0] [] h := by
  obtain ⟨k0, k1, k2, k3, k4, k5, k6, k7, k8, k9, k10, k11⟩ := hk
  obtain ⟨c0, c1, c2, c3, c4, c5, c6, c7, c8, c9, c10, c11⟩ := hc
  have hdj : ∀ t ∈ n_ls k, t ∉ n_ls c := fun t h1 h2 => (List.nodup_append.mp hnd).2.2 t h1 t h2 rfl
  have e0 : relM (gi h) f (nI k.1) [] = gi h := by funext a j; simp [relM]
  have hLC : LC (gi h (f + 22)) (n_ls c) := LC.congr (fun t ht => hfr _ _ (fun q => by omega) (fun q => hdj t q.2 ht)) c7
  have key := s_drawLoop (G := G) (d := d) (Q := Q) (c := nI c.1) (i := nI k.1) hF (n_ls c) [] 0 hLC (fun t ht => (c8 t ht).2) (by rw [List.length_append] at hlen; omega) (h := h) ?_
  · rw [e0] at key
    exact key
  rw [List.nil_append]
  have g : ∀ a j, ¬ (a = f + 8 ∧ j = k.1) → ¬ (a = f + 22 ∧ j ∈ n_ls k) → ¬ (a = f + 24 ∧ j ∈ n_ls c) → relM (gi h) f (nI k.1) (n_ls c) a j = M a j := fun a j h1 h2 h3 => by
    unfold relM
    rw [if_neg h3]
    exact hfr a j h1 h2
  generalize hM2 : relM (gi h) f (nI k.1) (n_ls c) = M2 at g ⊢
  have hF2 : Fa (sm h M2) f := hF
  have m8 : M2 (f + 8) k.1 = hdI (n_ls k ++ n_ls c) := by
    rw [← hM2]; unfold relM; rw [if_neg (fun q => by omega)]; exact h8
  have m22 : LC (M2 (f + 22)) (n_ls k ++ n_ls c) := LC.congr (fun t ht => by
    rw [← hM2]; unfold relM; rw [if_neg (fun q => by omega)]) h22
  have m24c : ∀ t ∈ n_ls c, M2 (f + 24) t = nI k.1 := fun t ht => by
    rw [← hM2]; unfold relM; rw [if_pos ⟨rfl, ht⟩]
  have lt31 : ∀ n, n < 24 → n < 2 ^ 31 := fun n hn => by omega
  refine x_X0_drawUp_87 ⟨hF.1, f_row5 hF2, g_at5 hF2 ?_⟩
  rw [rd_in c0 (by decide)]
  refine f_set5 hF2 ?_
  rw [wr_in k0 (by decide)]
  refine ⟨hF.1, f_at6 hF ?_⟩
  rw [rd_in k0 (by decide)]
  refine ⟨hF.1, f_at6 hF ?_⟩
  rw [rd_in c0 (by decide)]
  refine f_set6 hF ?_
  rw [wr_in k0 (by decide)]
  refine ⟨hF.1, f_at3 hF ?_⟩
  rw [rd_in c0 (by decide)]
  refine f_set3 hF ?_
  rw [wr_in k0 (by decide)]
  refine ⟨hF.1, f_set4 hF ?_⟩
  rw [wr_in c0 (by decide)]
  refine ⟨hF.1, f_set6 hF ?_⟩
  rw [wr_in c0 (by decide)]
  dsimp only [gi, sm]
  refine ⟨rfl, w _ ?_ ?_ ?_⟩
  · have v6 : M2 (f + 6) c.1 = nI (n_ld c) := (g _ _ (by omega) (by omega) (by omega)).trans (c3 hls)
    have v10 : M2 (f + 10) c.1 = laI (n_ls c) := (g _ _ (by omega) (by omega) (by omega)).trans (c5 hls)
    have v12c : M2 (f + 12) c.1 = nI (n_ls c).length := (g _ _ (by omega) (by omega) (by omega)).trans c6
    have v12k : M2 (f + 12) k.1 = nI (n_ls k).length := (g _ _ (by omega) (by omega) (by omega)).trans k6
    have h14 : ¬ n_ls k ++ n_ls c = [] := fun q => hls (List.append_eq_nil_iff.mp q).2
    have hne' : c.1 ≠ k.1 := Ne.symm hne
    refine ⟨k0, ?_, ?_, fun _ => ?_, ?_, fun _ => ?_, ?_, ?_, fun t ht => ?_, ?_, ?_, ?_⟩
    · simp [pm_u]; exact (g _ _ (by omega) (by omega) (by omega)).trans k1
    · simp [pm_u]; exact (g _ _ (by omega) (by omega) (by omega)).trans k2
    · simp [pm_u, v6]
    · simp [pm_u, hne]; exact m8
    · simp [pm_u, v10]; exact (laI_app hls).symm
    · rw [show n_ls (k.1, n_rk k, n_tg k, n_ld c, n_ls k ++ n_ls c) = n_ls k ++ n_ls c from rfl, List.length_append, ← nI_add]
      simp [pm_u, v12c, v12k, hne, hne']
    · refine LC.congr (fun t ht => ?_) m22
      simp [pm_u]
    · simp [pm_u]
      rcases List.mem_append.mp ht with q | q
      · exact ⟨(g _ _ (by omega) (by omega) (fun z => hdj t q z.2)).trans (k8 t q).1, (k8 t q).2⟩
      · exact ⟨m24c t q, (c8 t q).2⟩
    · simp [pm_u]; exact (g _ _ (by omega) (by omega) (by omega)).trans k9
    · simp [pm_u]; exact (g _ _ (by omega) (by omega) (by omega)).trans k10
    · simp [pm_u]; exact (g _ _ (by omega) (by omega) (by omega)).trans k11
  · have hne' : c.1 ≠ k.1 := Ne.symm hne
    refine ⟨c0, ?_, ?_, fun q => absurd rfl q, ?_, fun q => absurd rfl q, ?_, trivial, fun t ht => (by cases ht), ?_, ?_, ?_⟩
    · simp [pm_u]; exact (g _ _ (by omega) (by omega) (by omega)).trans c1
    · simp [pm_u]; exact (g _ _ (by omega) (by omega) (by omega)).trans c2
    · simp [pm_u]; rfl
    · simp [pm_u]; rfl
    · simp [pm_u]; exact (g _ _ (by omega) (by omega) (by omega)).trans c9
    · simp [pm_u]; exact (g _ _ (by omega) (by omega) (by omega)).trans c10
    · simp [pm_u]; exact (g _ _ (by omega) (by omega) (by omega)).trans c11
  · have b0 : Fr M M2 f [k.1, c.1] (n_ls k ++ n_ls c) := fun a j => by
      by_cases q1 : a = f + 8 ∧ j = k.1
      · exact Or.inr (Or.inl ⟨4, by decide, by decide, q1.1, by simp [q1.2]⟩)
      · by_cases q2 : a = f + 22 ∧ j ∈ n_ls k
        · exact Or.inr (Or.inr ⟨Or.inl q2.1, List.mem_append_left _ q2.2⟩)
        · by_cases q3 : a = f + 24 ∧ j ∈ n_ls c
          · exact Or.inr (Or.inr ⟨Or.inr q3.1, List.mem_append_right _ q3.2⟩)
          · exact Or.inl (g a j q1 q2 q3)
    exact ((((b0.trans (Fr.u (q := 5) (by decide) (by simp))).trans (Fr.u (q := 6) (by decide) (by simp))).trans (Fr.u (q := 3) (by decide) (by simp))).trans (Fr.u (q := 4) (by decide) (by simp))).trans (Fr.u (q := 6) (by decide) (by simp))
/-- a CHILD's LIST comes behind that of its parent -/
theorem s_drawUp {Q : pm_H → Prop} {k c : Nd} {p x y xc yc : Int32} (hF : Fa h f) (hk : NN (gi h) f p k x y) (hc : NN (gi h) f (nI k.1) c xc yc) (hne : k.1 ≠ c.1) (hls : n_ls c ≠ []) (hnd : (n_ls k ++ n_ls c).Nodup) (hlen : (n_ls k ++ n_ls c).length ≤ 20)
    (w : ∀ M', NN M' f p (k.1, n_rk k, n_tg k, n_ld c, n_ls k ++ n_ls c) x y → NN M' f (nI k.1) (c.1, n_rk c, n_tg c, n_ld c, []) xc yc → Fr (gi h) M' f [k.1, c.1] (n_ls k ++ n_ls c) → Q (sm h M')) : cv G (d + 2) m_X0_drawUp [.ref f, .int (nI c.1), .int (nI k.1)] h Q := by
  have hk' := hk
  have hc' := hc
  obtain ⟨k0, k1, k2, k3, k4, k5, k6, k7, k8, k9, k10, k11⟩ := hk
  obtain ⟨c0, c1, c2, c3, c4, c5, c6, c7, c8, c9, c10, c11⟩ := hc
  have hdj : ∀ t ∈ n_ls k, t ∉ n_ls c := fun t h1 h2 => (List.nodup_append.mp hnd).2.2 t h1 t h2 rfl
  have hkl : (n_ls k).length ≤ 20 := by rw [List.length_append] at hlen; omega
  refine cv_wp rfl (Nat.le_of_ble_eq_true rfl) rfl (x_X0_drawUp ⟨hF.1, f_at4 hF ?_⟩)
  rw [rd_in c0 (by decide), c4]
  refine ⟨hF.1, f_at6 hF ?_⟩
  rw [rd_in k0 (by decide), k6]
  by_cases hz : n_ls k = []
  · rw [if_pos (by rw [hz]; rfl)]
    refine ⟨hF.1, f_set4 hF ?_⟩
    rw [wr_in k0 (by decide)]
    have hF' : Fa (sm h (pm_u (gi h) (f + 8) k.1 (hdI (n_ls c)))) f := hF
    refine s_draw2 (M := gi h) hF' hk' hc' hne hls hnd hlen ?_ ?_ ?_ w
    · simp [pm_u, hz, gi, sm]
    · rw [hz, List.nil_append]
      exact LC.congr (fun t _ => by simp [pm_u, gi, sm]) c7
    · intro a j h1 h2
      simp only [pm_u, gi, sm]
      by_cases ha : a = f + 8
      · rw [if_pos ha]
        by_cases hj : j = k.1
        · exact absurd ⟨ha, hj⟩ h1
        · rw [if_neg hj]
      · rw [if_neg ha]
  · rw [if_neg (fun q => hz (by
      have h0 : (0 : Int32) = nI 0 := rfl
      rw [h0, nI_eq (by omega) (by decide)] at q
      exact List.length_eq_zero_iff.mp q))]
    refine ⟨hF.1, f_at5 hF ?_⟩
    rw [rd_in k0 (by decide), k5 hz]
    obtain ⟨t, ht, hlt⟩ := laI_mem hz
    rw [hlt]
    have ht20 := (k8 t ht).2
    refine f_set11 hF ?_
    rw [wr_in ht20 (by decide)]
    have hF' : Fa (sm h (pm_u (gi h) (f + 22) t (hdI (n_ls c)))) f := hF
    refine s_draw2 (M := gi h) hF' hk' hc' hne hls hnd hlen ?_ ?_ ?_ w
    · simp [pm_u, gi, sm]
      rw [← hdI_app (b := n_ls c) hz] at k4
      exact k4
    · refine LC.app c7 k7 (List.nodup_append.mp hnd).1 (fun u h1 h2 => ?_) (fun u h1 h2 => ?_) (fun u hu => ?_) (fun u hu => (k8 u hu).2)
      · have : u = t := by
          rw [hlt] at h1
          exact ((nI_eq (by omega) (by have := (k8 u h2).2; omega)).mp h1).symm
        simp [pm_u, this, gi, sm]
      · have : u ≠ t := fun q => h2 (by rw [hlt, q])
        simp [pm_u, this, gi, sm]
      · have : u ≠ t := fun q => hdj t ht (q ▸ hu)
        simp [pm_u, this, gi, sm]
    · intro a j h1 h2
      simp only [pm_u, gi, sm]
      by_cases ha : a = f + 22
      · rw [if_pos ha]
        by_cases hj : j = t
        · exact absurd ⟨ha, hj ▸ ht⟩ h2
        · rw [if_neg hj]
      · rw [if_neg ha]
end DRW
