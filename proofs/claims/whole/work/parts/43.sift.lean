/-! SIFT, in the class's rows -/
/-- all LISTS hold something, leads are items -/
def TW : Tr → Prop
  | .leaf => True
  | .inner _ k _ l r => (n_ls k ≠ [] ∧ n_ld k < 20 ∧ 0 < n_tg k) ∧ TW l ∧ TW r
theorem tr_no_m1 {T : Tr} {M : Nat → Nat → Int32} {f : Nat} {p : Int32} (h : NC M f p T) : tr_no T = -1 ↔ isL T = true := by
  cases T with
  | leaf => simp [tr_no, isL]
  | inner s k v l r =>
    have := h.1.1
    simp only [tr_no, isL, Bool.false_eq_true, iff_false]
    exact nI_nm1 (by omega)
theorem NC.lead {T : Tr} {M : Nat → Nat → Int32} {f : Nat} {p : Int32} (h : NC M f p T) (hw : TW T) (hl : isL T = false) : rd (M (f + 6)) 24 (tr_no T) = nI (tr_ld T) ∧ tr_ld T < 20 := by
  cases T with
  | leaf => cases hl
  | inner s k v l r =>
    obtain ⟨⟨h0, h1, h2, h3, -⟩, -, -⟩ := h
    simp only [tr_no, tr_ld]
    rw [rd_in h0 (by decide)]
    exact ⟨h3 hw.1.1, hw.1.2.1⟩
theorem swp_cases (lt : Nat → Nat → Bool) (l r : Tr) : (swp lt l r = false ∧ isL l = false ∧ ¬ (isL r = false ∧ lt (tr_ld r) (tr_ld l) = true)) ∨ (swp lt l r = true ∧ (isL l = true ∨ (isL r = false ∧ lt (tr_ld r) (tr_ld l) = true))) := by
  unfold swp
  cases isL l <;> cases isL r <;> cases lt (tr_ld r) (tr_ld l) <;> simp
/-- RANKS fall from parent to CHILD -/
def TR : Tr → Prop
  | .leaf => True
  | .inner _ k _ l r => (isL l = true ∨ tr_rk l < n_rk k) ∧ (isL r = true ∨ tr_rk r < n_rk k) ∧ TR l ∧ TR r
theorem siftF_step {lt : Nat → Nat → Bool} {n : Nat} {k : Nd} {l r : Tr} {q : Nd × Tr × Tr × Nat} (e : siftF lt (n + 1) k l r = some q) :
    ((¬ nI (n_ls k).length < n_tg k ∨ (isL l = true ∧ isL r = true)) ∧ q = (k, l, r, 1)) ∨
    (nI (n_ls k).length < n_tg k ∧ ¬ (isL l = true ∧ isL r = true) ∧ ∃ (z : Nat) (c : Nd) (u : Unit) (lc rc : Tr), (if swp lt l r then r else l) = .inner z c u lc rc ∧
      ((isL lc = true ∧ isL rc = true ∧ ∃ k' l' r' m, siftF lt n (k.1, n_rk k, n_tg k, n_ld c, n_ls k ++ n_ls c) .leaf (if swp lt l r then l else r) = some (k', l', r', m) ∧ q = (k', l', r', m + 1)) ∨
       (¬ (isL lc = true ∧ isL rc = true) ∧ ∃ c' lc' rc' m1 k' l' r' m, siftF lt n (c.1, n_rk c, n_tg c, n_ld c, []) lc rc = some (c', lc', rc', m1) ∧ siftF lt n (k.1, n_rk k, n_tg k, n_ld c, n_ls k ++ n_ls c) (tn c' lc' rc') (if swp lt l r then l else r) = some (k', l', r', m) ∧ q = (k', l', r', m + m1 + 1)))) := by
  rw [siftF] at e
  split at e
  next c => exact Or.inl ⟨c, (Option.some.inj e).symm⟩
  next c =>
    rw [not_or, Classical.not_not] at c
    refine Or.inr ⟨c.1, c.2, ?_⟩
    split at e
    next => cases e
    next z c u lc rc he =>
      refine ⟨z, c, u, lc, rc, he, ?_⟩
      split at e
      next c2 =>
        refine Or.inl ⟨c2.1, c2.2, ?_⟩
        split at e
        next => cases e
        next k' l' r' m h1 => exact ⟨k', l', r', m, h1, (Option.some.inj e).symm⟩
      next c2 =>
        refine Or.inr ⟨c2, ?_⟩
        split at e
        next => cases e
        next c' lc' rc' m1 h1 =>
          split at e
          next => cases e
          next k' l' r' m h2 => exact ⟨c', lc', rc', m1, k', l', r', m, h1, h2, (Option.some.inj e).symm⟩
theorem tr_swp (f : Tr → List Nat) (b : Bool) (l r : Tr) : (f (if b then r else l) ++ f (if b then l else r)).Perm (f l ++ f r) := by
  cases b
  · exact List.Perm.refl _
  · exact List.perm_append_comm
theorem isL_ids {T : Tr} (h : isL T = true) : tr_ids T = [] ∧ tr_its T = [] := by
  cases T with
  | leaf => exact ⟨rfl, rfl⟩
  | inner => cases h
theorem swp_get {P : Tr → Prop} {b : Bool} {l r : Tr} (hl : P l) (hr : P r) : P (if b then r else l) ∧ P (if b then l else r) := by
  cases b
  · exact ⟨hl, hr⟩
  · exact ⟨hr, hl⟩
theorem siftF_spec {lt : Nat → Nat → Bool} : ∀ (n : Nat) (k : Nd) (l r : Tr) (k' : Nd) (l' r' : Tr) (m : Nat), siftF lt n k l r = some (k', l', r', m) → TW l → TW r → (tr_ids (tn k l r)).Nodup → 0 < n_tg k → TR (tn k l r) → (n_ls k = [] ∨ n_ld k < 20) →
    (k'.1 = k.1 ∧ n_rk k' = n_rk k ∧ n_tg k' = n_tg k) ∧ (∀ j ∈ tr_ids (tn k' l' r'), j ∈ tr_ids (tn k l r)) ∧ (tr_ids (tn k' l' r')).Nodup ∧ (tr_its (tn k' l' r')).Perm (tr_its (tn k l r)) ∧ TW l' ∧ TW r' ∧ TR (tn k' l' r') ∧
    (n_ls k ≠ [] ∨ ¬ (isL l = true ∧ isL r = true) → n_ls k' ≠ [] ∧ n_ld k' < 20)
  | 0, k, l, r, k', l', r', m, e, _, _, _, _, _, _ => by cases e
  | n + 1, k, l, r, k', l', r', m, e, wl, wr', hid, htg, htr, hk => by
    rcases siftF_step e with ⟨c, q⟩ | ⟨c1, c2, z, c, u, lc, rc, he, hc⟩
    · cases q
      refine ⟨⟨rfl, rfl, rfl⟩, fun j hj => hj, hid, List.Perm.refl _, wl, wr', htr, fun q => ?_⟩
      by_cases hz : n_ls k = []
      · exfalso
        rcases c with c | c
        · rw [hz] at c
          exact c htg
        · rcases q with q | q
          · exact q hz
          · exact q c
      · exact ⟨hz, hk.resolve_left hz⟩
    · obtain ⟨wa, wb⟩ := swp_get (b := swp lt l r) wl wr'
      obtain ⟨t1, t2, t3, t4⟩ := htr
      obtain ⟨⟨ta1, ta2⟩, tb1, tb2⟩ := swp_get (P := fun T => (isL T = true ∨ tr_rk T < n_rk k) ∧ TR T) (b := swp lt l r) ⟨t1, t3⟩ ⟨t2, t4⟩
      have hpi := tr_swp tr_ids (swp lt l r) l r
      have hpt := tr_swp tr_its (swp lt l r) l r
      rw [he] at wa ta1 ta2 hpi hpt
      generalize (if swp lt l r then l else r) = b at *
      have hid2 : (k.1 :: (tr_ids (.inner z c u lc rc) ++ tr_ids b)).Nodup := (List.Perm.cons _ hpi).nodup_iff.mpr hid
      obtain ⟨nk, nab⟩ := List.nodup_cons.mp hid2
      obtain ⟨na, nb, ndis⟩ := List.nodup_append.mp nab
      have hrk : n_rk c < n_rk k := by
        rcases ta1 with q | q
        · cases q
        · exact q
      obtain ⟨⟨wc1, wc2, wc3⟩, wlc, wrc⟩ := wa
      have hsub : ∀ j, j ∈ tr_ids (.inner z c u lc rc) ∨ j ∈ tr_ids b → j ∈ tr_ids (tn k l r) := fun j hj => List.mem_cons_of_mem _ (hpi.mem_iff.mp (List.mem_append.mpr hj))
      have hperm : (n_ls k ++ n_ls c ++ ((tr_its lc ++ tr_its rc) ++ tr_its b)).Perm (tr_its (tn k l r)) := by
        have h1 : (tr_its (.inner z c u lc rc) ++ tr_its b) = n_ls c ++ ((tr_its lc ++ tr_its rc) ++ tr_its b) := by simp [tr_its]
        rw [h1] at hpt
        rw [List.append_assoc]
        exact List.Perm.append_left _ hpt
      rcases hc with ⟨b1, b2, k2, l2, r2, m2, e1, q⟩ | ⟨b1, c', lc', rc', m1, k2, l2, r2, m2, e1, e2, q⟩
      · cases q
        obtain ⟨i1, i2⟩ := isL_ids b1
        obtain ⟨i3, i4⟩ := isL_ids b2
        rw [i2, i4] at hperm
        obtain ⟨g1, g2, g3, g4, g5, g6, g7, g8⟩ := siftF_spec n _ _ _ _ _ _ _ e1 trivial wb (by
          show (k.1 :: ([] ++ tr_ids b)).Nodup
          exact List.nodup_cons.mpr ⟨fun q => nk (List.mem_append_right _ (by simpa using q)), by simpa using nb⟩) htg ⟨Or.inl rfl, tb1, trivial, tb2⟩ (Or.inr wc2)
        refine ⟨g1, fun j hj => ?_, g3, g4.trans hperm, g5, g6, g7, fun _ => g8 (Or.inl ?_)⟩
        · rcases List.mem_cons.mp (g2 j hj) with q | q
          · rw [q]; exact List.mem_cons_self
          · exact hsub j (Or.inr (by simpa [tr_ids] using q))
        · exact fun q => wc1 (List.append_eq_nil_iff.mp q).2
      · cases q
        obtain ⟨g1, g2, g3, g4, g5, g6, g7, g8⟩ := siftF_spec n _ _ _ _ _ _ _ e1 wlc wrc na wc3 ta2 (Or.inl rfl)
        have g9 := g8 (Or.inr b1)
        obtain ⟨o1, o2, o3, o4, o5, o6, o7, o8⟩ := siftF_spec n _ _ _ _ _ _ _ e2 ⟨⟨g9.1, g9.2, by rw [g1.2.2]; exact wc3⟩, g5, g6⟩ wb (by
          refine List.nodup_cons.mpr ⟨fun q => nk ?_, List.nodup_append.mpr ⟨g3, nb, fun x hx y hy => ndis x (g2 x hx) y hy⟩⟩
          rcases List.mem_append.mp q with q | q
          · exact List.mem_append_left _ (g2 _ q)
          · exact List.mem_append_right _ q) htg ⟨Or.inr (by show n_rk c' < n_rk k; rw [g1.2.1]; exact hrk), tb1, g7, tb2⟩ (Or.inr wc2)
        refine ⟨o1, fun j hj => ?_, o3, o4.trans (List.Perm.trans ?_ hperm), o5, o6, o7, fun _ => o8 (Or.inl ?_)⟩
        · rcases List.mem_cons.mp (o2 j hj) with q | q
          · rw [q]; exact List.mem_cons_self
          · rcases List.mem_append.mp q with q | q
            · exact hsub j (Or.inl (g2 j q))
            · exact hsub j (Or.inr q)
        · exact List.Perm.append_left _ (List.Perm.append_right _ g4)
        · exact fun q => wc1 (List.append_eq_nil_iff.mp q).2
section SFT
variable {G : pm_G} {d : Nat} {h : pm_H} {f : Nat}
theorem s_lesserT {Q : Int32 → pm_H → Prop} {k : Nd} {p : Int32} {l r : Tr} (hF : Fa h f) (hP : Pk h) (hk : NN (gi h) f p k (tr_no l) (tr_no r)) (hl : NC (gi h) f (nI k.1) l) (hr : NC (gi h) f (nI k.1) r) (wl : TW l) (wr' : TW r)
    (w : ∀ M', NN M' f p k (tr_no (if swp (kLt (gf h 16)) l r then r else l)) (tr_no (if swp (kLt (gf h 16)) l r then l else r)) → Fr (gi h) M' f [k.1] [] → Q (tr_no (if swp (kLt (gf h 16)) l r then r else l)) (sm h M')) : ci G (d + 2) m_X0_lesserChild [.ref f, .int (nI k.1)] h Q := by
  have hk' := hk
  obtain ⟨k0, k1, k2, k3, k4, k5, k6, k7, k8, k9, k10, k11⟩ := hk
  have hx : rd (gi h (f + 14)) 24 (nI k.1) = tr_no l := by rw [rd_in k0 (by decide)]; exact k9
  have hy : rd (gi h (f + 16)) 24 (nI k.1) = tr_no r := by rw [rd_in k0 (by decide)]; exact k10
  refine s_lesser hF hP hx hy ?_
  have hlt : isL l = false → isL r = false → (FP.fcmp (kyf (gf h 16) (rd (gi h (f + 6)) 24 (tr_no r))) (kyf (gf h 16) (rd (gi h (f + 6)) 24 (tr_no l))) = some .lt ↔ kLt (gf h 16) (tr_ld r) (tr_ld l) = true) := fun h1 h2 => by
    obtain ⟨e1, e2⟩ := hl.lead wl h1
    obtain ⟨e3, e4⟩ := hr.lead wr' h2
    rw [e1, e3, kyf_in e2, kyf_in e4]
    simp [kLt]
  have ml := tr_no_m1 hl
  have mr := tr_no_m1 hr
  rcases swp_cases (kLt (gf h 16)) l r with ⟨s1, s2, s3⟩ | ⟨s1, s2⟩
  · rw [if_pos]
    · have := w (gi h)
      rw [s1] at this
      exact this hk' Fr.rfl'
    · refine ⟨fun q => (by rw [ml, s2] at q; cases q), fun q => s3 ?_⟩
      have h2 : isL r = false := by
        cases hz : isL r with
        | false => rfl
        | true => exact absurd (mr.mpr hz) q.1
      exact ⟨h2, (hlt s2 h2).mp q.2⟩
  · rw [if_neg]
    · have := w (pm_u (pm_u (gi h) (f + 14) k.1 (tr_no r)) (f + 16) k.1 (tr_no l))
      rw [s1] at this
      rw [wr_in k0 (by decide), wr_in k0 (by decide)]
      refine this ⟨k0, ?_, ?_, fun q => ?_, ?_, fun q => ?_, ?_, LC.congr (fun t _ => ?_) k7, fun t ht => ⟨?_, (k8 t ht).2⟩, ?_, ?_, ?_⟩ ((Fr.u (q := 7) (by decide) (by simp)).trans (Fr.u (q := 8) (by decide) (by simp))) <;> simp [pm_u, *]
    · rintro ⟨q1, q2⟩
      rcases s2 with s2 | ⟨s2, s3⟩
      · exact q1 (ml.mpr s2)
      · have h1 : isL l = false := by
          cases hz : isL l with
          | false => rfl
          | true => exact absurd (ml.mpr hz) q1
        exact q2 ⟨fun z => (by rw [mr, s2] at z; cases z), (hlt h1 s2).mpr s3⟩
end SFT
