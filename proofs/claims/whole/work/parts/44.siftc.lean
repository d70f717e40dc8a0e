/-! SIFT, as the class walks it */ -/
section SFC
variable {G : pm_G} {d : Nat} {f : Nat}
theorem tr_no_ne {M : Nat → Nat → Int32} {f : Nat} {p : Int32} {k : Nd} {x y : Int32} (h : NN M f p k x y) : ¬ nI k.1 = -1 := nI_nm1 (by have := h.1; omega)
theorem s_siftStop {post : pm_PT} {h : pm_H} {top i : Nat} {k : Nd} {l r : Tr} {p : Int32} (hF : Fa h f) (htop : top < 24) (hk : NN (gi h) f p k (tr_no l) (tr_no r)) (hl : NC (gi h) f (nI k.1) l) (hr : NC (gi h) f (nI k.1) r) (hi : i + 1 ≤ 1000000)
    (c : ¬ nI (n_ls k).length < n_tg k ∨ (isL l = true ∧ isL r = true))
    (w : Wp G (m_X0_sift, d + 3, 0, 0, post) (0, 0) 4 [.ref f, .int (nI top), .int (if k.1 = top then -1 else p), .int (nI (i + 1)), .null] [] h) :
    Wp G (m_X0_sift, d + 3, 0, 0, post) (0, 0) 4 [.ref f, .int (nI top), .int (nI k.1), .int (nI i), .null] [] h := by
  have hk' := hk
  obtain ⟨k0, k1, k2, k3, k4, k5, k6, k7, k8, k9, k10, k11⟩ := hk
  refine x_X0_sift_4 ?_
  rw [if_neg (li_no 1000000 1000000 rfl (by omega) (by decide)), if_neg (tr_no_ne hk')]
  refine ⟨hF.1, f_at6 hF ?_⟩
  rw [rd_in k0 (by decide), k6]
  refine ⟨hF.1, f_at2 hF ?_⟩
  rw [rd_in k0 (by decide), k2, nI_1]
  have e9 : rd (gi h (f + 18)) 24 (nI k.1) = p := by rw [rd_in k0 (by decide)]; exact k11
  have hcmp : (nI k.1 = nI top) ↔ k.1 = top := nI_eq (by omega) (by omega)
  by_cases c1 : n_tg k ≤ nI (n_ls k).length
  · rw [if_pos c1]
    by_cases ht : k.1 = top
    · rw [if_pos (hcmp.mpr ht)]
      rw [if_pos ht] at w
      exact w
    · rw [if_neg (fun q => ht (hcmp.mp q))]
      refine ⟨hF.1, f_at9 hF ?_⟩
      rw [e9]
      rw [if_neg ht] at w
      exact w
  · rw [if_neg c1]
    have c2 : isL l = true ∧ isL r = true := c.resolve_left (fun q => c1 (Int32.not_lt.mp q))
    refine ⟨hF.1, s_isLeaf hF ?_⟩
    have e1 : (if tr_no l = -1 ∧ tr_no r = -1 then (1 : Int32) else 0) = 1 := if_pos ⟨(tr_no_m1 hl).mpr c2.1, (tr_no_m1 hr).mpr c2.2⟩
    rw [rd_in k0 (by decide), rd_in k0 (by decide), k9, k10, e1, if_neg (by decide)]
    by_cases ht : k.1 = top
    · rw [if_pos (hcmp.mpr ht)]
      rw [if_pos ht] at w
      exact w
    · rw [if_neg (fun q => ht (hcmp.mp q))]
      refine ⟨hF.1, f_at9 hF ?_⟩
      rw [e9]
      rw [if_neg ht] at w
      exact w
theorem s_siftL {post : pm_PT} {top : Nat} (htop : top < 24) : ∀ (n : Nat) (h : pm_H) (k : Nd) (l r : Tr) (p : Int32) (i : Nat) (k' : Nd) (l' r' : Tr) (m : Nat), siftF (kLt (gf h 16)) n k l r = some (k', l', r', m) →
    Fa h f → Pk h → NN (gi h) f p k (tr_no l) (tr_no r) → NC (gi h) f (nI k.1) l → NC (gi h) f (nI k.1) r → TW l → TW r → 0 < n_tg k → (n_ls k = [] ∨ n_ld k < 20) → TR (tn k l r) → (tr_ids (tn k l r)).Nodup → (tr_its (tn k l r)).Nodup → (tr_its (tn k l r)).length ≤ 20 →
    (top = k.1 ∨ top ∉ tr_ids (tn k l r)) → i + m ≤ 1000000 →
    (∀ M', NN M' f p k' (tr_no l') (tr_no r') → NC M' f (nI k.1) l' → NC M' f (nI k.1) r' → Fr (gi h) M' f (tr_ids (tn k l r)) (tr_its (tn k l r)) → (∀ j ∈ tr_ids (tn k l r), j ∉ tr_ids (tn k' l' r') → M' (f + 2) j = -1) →
      Wp G (m_X0_sift, d + 3, 0, 0, post) (0, 0) 4 [.ref f, .int (nI top), .int (if k.1 = top then -1 else p), .int (nI (i + m)), .null] [] (sm h M')) →
    Wp G (m_X0_sift, d + 3, 0, 0, post) (0, 0) 4 [.ref f, .int (nI top), .int (nI k.1), .int (nI i), .null] [] h
  | 0, h, k, l, r, p, i, k', l', r', m, e, _, _, _, _, _, _, _, _, _, _, _, _, _, _, _, _ => by cases e
  | n + 1, h, k, l, r, p, i, k', l', r', m, e, hF, hP, hk, hl, hr, wl, wr', htg, hld, htr, hid, hit, hlen, ht, hi, w => by
    rcases siftF_step e with ⟨c, q⟩ | ⟨c1, c2, z, c, u, lc, rc, he, hc⟩
    · cases q
      exact s_siftStop hF htop hk hl hr hi c (w (gi h) hk hl hr Fr.rfl' (fun j h1 h2 => absurd h1 h2))
    · have hk' := hk
      obtain ⟨k0, k1, k2, k3, k4, k5, k6, k7, k8, k9, k10, k11⟩ := hk
      have h1m : i + 1 ≤ 1000000 := by
        rcases hc with ⟨b1, b2, k2, l2, r2, m2, e1, q⟩ | ⟨b1, c', lc', rc', m1, k2, l2, r2, m2, e1, e2, q⟩
        · cases q; omega
        · cases q; omega
      refine x_X0_sift_4 ?_
      rw [if_neg (li_no 1000000 1000000 rfl (by omega) (by decide)), if_neg (tr_no_ne hk')]
      refine ⟨hF.1, f_at6 hF ?_⟩
      rw [rd_in k0 (by decide), k6]
      refine ⟨hF.1, f_at2 hF ?_⟩
      rw [rd_in k0 (by decide), k2, nI_1, if_neg (fun q => absurd c1 (Int32.not_lt.mpr q))]
      refine ⟨hF.1, s_isLeaf hF ?_⟩
      have eL : (if tr_no l = -1 ∧ tr_no r = -1 then (1 : Int32) else 0) = 0 := if_neg (fun q => c2 ⟨(tr_no_m1 hl).mp q.1, (tr_no_m1 hr).mp q.2⟩)
      rw [rd_in k0 (by decide), rd_in k0 (by decide), k9, k10, eL, if_pos rfl]
      refine ⟨hF.1, s_lesserT hF hP hk' hl hr wl wr' (fun M1 n1 fr1 => ?_)⟩
      obtain ⟨wa, wb⟩ := swp_get (b := swp (kLt (gf h 16)) l r) wl wr'
      obtain ⟨t1, t2, t3, t4⟩ := htr
      obtain ⟨⟨ta1, ta2⟩, tb1, tb2⟩ := swp_get (P := fun T => (isL T = true ∨ tr_rk T < n_rk k) ∧ TR T) (b := swp (kLt (gf h 16)) l r) ⟨t1, t3⟩ ⟨t2, t4⟩
      obtain ⟨ca, cb⟩ := swp_get (P := fun T => NC (gi h) f (nI k.1) T) (b := swp (kLt (gf h 16)) l r) hl hr
      have hpi := tr_swp tr_ids (swp (kLt (gf h 16)) l r) l r
      have hpt := tr_swp tr_its (swp (kLt (gf h 16)) l r) l r
      rw [he] at wa ta1 ta2 hpi hpt ca n1 ⊢
      generalize (if swp (kLt (gf h 16)) l r then l else r) = b at *
      have hid2 : (k.1 :: (tr_ids (.inner z c u lc rc) ++ tr_ids b)).Nodup := (List.Perm.cons _ hpi).nodup_iff.mpr hid
      have hit2 : (n_ls k ++ (tr_its (.inner z c u lc rc) ++ tr_its b)).Nodup := (List.Perm.append_left _ hpt).nodup_iff.mpr hit
      have hlen2 : (n_ls k ++ (tr_its (.inner z c u lc rc) ++ tr_its b)).length ≤ 20 := by rw [(List.Perm.append_left (n_ls k) hpt).length_eq]; exact hlen
      have mid : ∀ j, j ∈ tr_ids (tn k l r) ↔ j = k.1 ∨ j ∈ tr_ids (.inner z c u lc rc) ∨ j ∈ tr_ids b := fun j => by
        have := hpi.mem_iff (a := j)
        simp only [List.mem_append] at this
        simp only [tr_ids, List.mem_cons, List.mem_append] at this ⊢
        rw [← this]
      have mit : ∀ j, j ∈ tr_its (tn k l r) ↔ j ∈ n_ls k ∨ j ∈ tr_its (.inner z c u lc rc) ∨ j ∈ tr_its b := fun j => by
        have := hpt.mem_iff (a := j)
        simp only [List.mem_append] at this
        simp only [tr_its, List.mem_append] at this ⊢
        rw [← this]
      obtain ⟨nk, nab⟩ := List.nodup_cons.mp hid2
      obtain ⟨na, nb, ndis⟩ := List.nodup_append.mp nab
      obtain ⟨jk, jab, jdis⟩ := List.nodup_append.mp hit2
      obtain ⟨ja, jb, jdis2⟩ := List.nodup_append.mp jab
      have hka : k.1 ∉ tr_ids (.inner z c u lc rc) := fun q => nk (List.mem_append_left _ q)
      have hkb : k.1 ∉ tr_ids b := fun q => nk (List.mem_append_right _ q)
      have hkc : k.1 ≠ c.1 := fun q => hka (by rw [q]; exact List.mem_cons_self)
      have ca1 : NC M1 f (nI k.1) (.inner z c u lc rc) := fr1.nc ca (fun j hj q => hka (by rw [List.mem_singleton] at q; exact q ▸ hj)) (fun j _ q => by cases q)
      have cb1 : NC M1 f (nI k.1) b := fr1.nc cb (fun j hj q => hkb (by rw [List.mem_singleton] at q; exact q ▸ hj)) (fun j _ q => by cases q)
      obtain ⟨nc1, clc1, crc1⟩ := ca1
      obtain ⟨⟨wc1, wc2, wc3⟩, wlc, wrc⟩ := wa
      have hnd : (n_ls k ++ n_ls c).Nodup := by
        refine hit2.sublist (List.Sublist.append_left ?_ _)
        simp only [tr_its, List.append_assoc]
        exact List.sublist_append_left _ _
      have hln : (n_ls k ++ n_ls c).length ≤ 20 := by
        simp only [tr_its, List.length_append] at hlen2 ⊢
        omega
      have hF1 : Fa (sm h M1) f := hF
      refine ⟨hF.1, s_drawUp (h := sm h M1) hF1 n1 nc1 hkc wc1 hnd hln (fun M2 n2 n3 fr2 => ?_)⟩
      have hFm : ∀ M, Fa (sm h M) f := fun M => hF
      have c0 := n3.1
      refine ⟨hF.1, s_isLeaf (h := sm h M2) (hFm M2) ?_⟩
      have e14 : rd (gi (sm h M2) (f + 14)) 24 (nI c.1) = tr_no lc := by rw [rd_in c0 (by decide)]; exact n3.2.2.2.2.2.2.2.2.2.1
      have e16 : rd (gi (sm h M2) (f + 16)) 24 (nI c.1) = tr_no rc := by rw [rd_in c0 (by decide)]; exact n3.2.2.2.2.2.2.2.2.2.2.1
      rw [show gi (sm (sm h M1) M2) = M2 from rfl] at *
      rw [show (tr_no (Std.DTreeMap.Internal.Impl.inner z c u lc rc)) = nI c.1 from rfl, e14, e16]
      obtain ⟨ncl, nlr⟩ := List.nodup_cons.mp (show (c.1 :: (tr_ids lc ++ tr_ids rc)).Nodup from na)
      obtain ⟨nl, nr, nlrd⟩ := List.nodup_append.mp nlr
      obtain ⟨jc, jlr, jcd⟩ := List.nodup_append.mp (show (n_ls c ++ (tr_its lc ++ tr_its rc)).Nodup from ja)
      obtain ⟨jl, jr, jlrd⟩ := List.nodup_append.mp jlr
      have hkl : ∀ j, j ∈ tr_ids lc ∨ j ∈ tr_ids rc → j ∉ [k.1, c.1] := fun j hj q => by
        have hj2 := List.mem_append.mpr hj
        simp only [List.mem_cons, List.not_mem_nil, or_false] at q
        rcases q with q | q
        · exact hka (by rw [← q]; exact List.mem_cons_of_mem _ hj2)
        · exact ncl (by rw [← q]; exact hj2)
      have hjl : ∀ j, j ∈ tr_its lc ∨ j ∈ tr_its rc → j ∉ n_ls k ++ n_ls c := fun j hj q => by
        have hj2 := List.mem_append.mpr hj
        rcases List.mem_append.mp q with q | q
        · exact jdis j q j (List.mem_append_left _ (List.mem_append_right _ hj2)) rfl
        · exact jcd j q j hj2 rfl
      have clc2 : NC M2 f (nI c.1) lc := fr2.nc clc1 (fun j hj => hkl j (Or.inl hj)) (fun j hj => hjl j (Or.inl hj))
      have crc2 : NC M2 f (nI c.1) rc := fr2.nc crc1 (fun j hj => hkl j (Or.inr hj)) (fun j hj => hjl j (Or.inr hj))
      have cb2 : NC M2 f (nI k.1) b := fr2.nc cb1 (fun j hj q => by
        simp only [List.mem_cons, List.not_mem_nil, or_false] at q
        rcases q with q | q
        · exact hkb (q ▸ hj)
        · exact ndis c.1 List.mem_cons_self j hj q.symm) (fun j hj q => by
        rcases List.mem_append.mp q with q | q
        · exact jdis j q j (List.mem_append_right _ hj) rfl
        · exact jdis2 j (List.mem_append_left _ q) j hj rfl)
      have hA : ∀ j, j ∈ [k.1, c.1] → j ∈ tr_ids (tn k l r) := fun j hj => by
        rw [mid]
        simp only [List.mem_cons, List.not_mem_nil, or_false] at hj
        rcases hj with q | q
        · exact Or.inl q
        · exact Or.inr (Or.inl (by rw [q]; exact List.mem_cons_self))
      have hB : ∀ j, j ∈ n_ls k ++ n_ls c → j ∈ tr_its (tn k l r) := fun j hj => by
        rw [mit]
        rcases List.mem_append.mp hj with q | q
        · exact Or.inl q
        · exact Or.inr (Or.inl (List.mem_append_left _ q))
      have frA : Fr (gi h) M2 f (tr_ids (tn k l r)) (tr_its (tn k l r)) := (fr1.mono (fun j hj => hA j (by rw [List.mem_singleton] at hj; simp [hj])) (fun j hj => by cases hj)).trans (fr2.mono hA hB)
      have hrk : n_rk c < n_rk k := by
        rcases ta1 with q | q
        · cases q
        · exact q
      have ht2 : top = k.1 ∨ (top ≠ k.1 ∧ top ∉ tr_ids (.inner z c u lc rc) ∧ top ∉ tr_ids b) := by
        rcases ht with q | q
        · exact Or.inl q
        · rw [mid] at q
          exact Or.inr ⟨fun y => q (Or.inl y), fun y => q (Or.inr (Or.inl y)), fun y => q (Or.inr (Or.inr y))⟩
      rcases hc with ⟨b1, b2, k2, l2, r2, m2, e1, q⟩ | ⟨b1, c', lc', rc', m1, k2, l2, r2, m2, e1, e2, q⟩
      · cases q
        obtain ⟨i1, i2⟩ := isL_ids b1
        obtain ⟨i3, i4⟩ := isL_ids b2
        have eL2 : (if tr_no lc = -1 ∧ tr_no rc = -1 then (1 : Int32) else 0) = 1 := if_pos ⟨(tr_no_m1 clc2).mpr b1, (tr_no_m1 crc2).mpr b2⟩
        rw [eL2, if_neg (by decide)]
        refine ⟨hF.1, f_set1 (h := sm h M2) (hFm M2) ?_⟩
        rw [wr_in c0 (by decide)]
        refine ⟨hF.1, f_set7 (h := sm h (pm_u M2 (f + 2) c.1 (-1))) (hFm _) ?_⟩
        rw [wr_in k0 (by decide)]
        have fr3 : Fr M2 (pm_u (pm_u M2 (f + 2) c.1 (-1)) (f + 14) k.1 (-1)) f [k.1, c.1] [] := (Fr.u (q := 1) (by decide) (by simp)).trans (Fr.u (q := 7) (by decide) (by simp))
        have cb3 := fr3.nc cb2 (fun j hj q => by
          simp only [List.mem_cons, List.not_mem_nil, or_false] at q
          rcases q with q | q
          · exact hkb (q ▸ hj)
          · exact ndis c.1 List.mem_cons_self j hj q.symm) (fun j _ q => by cases q)
        have n4 : NN (pm_u (pm_u M2 (f + 2) c.1 (-1)) (f + 14) k.1 (-1)) f p (k.1, n_rk k, n_tg k, n_ld c, n_ls k ++ n_ls c) (tr_no .leaf) (tr_no b) := by
          obtain ⟨v0, v1, v2, v3, v4, v5, v6, v7, v8, v9, v10, v11⟩ := n2
          refine ⟨v0, ?_, ?_, fun q => ?_, ?_, fun q => ?_, ?_, LC.congr (fun t _ => ?_) v7, fun t ht => ⟨?_, (v8 t ht).2⟩, ?_, ?_, ?_⟩
          · simp [pm_u, hkc]; exact v1
          · simp [pm_u]; exact v2
          · simp [pm_u]; exact v3 q
          · simp [pm_u]; exact v4
          · simp [pm_u]; exact v5 q
          · simp [pm_u]; exact v6
          · simp [pm_u]
          · simp [pm_u]; exact (v8 t ht).1
          · simp [pm_u, tr_no]
          · simp [pm_u]; exact v10
          · simp [pm_u]; exact v11
        have hid3 : (tr_ids (tn (k.1, n_rk k, n_tg k, n_ld c, n_ls k ++ n_ls c) .leaf b)).Nodup := by
          show (k.1 :: ([] ++ tr_ids b)).Nodup
          exact List.nodup_cons.mpr ⟨by simpa using hkb, by simpa using nb⟩
        have hits3 : (tr_its (tn (k.1, n_rk k, n_tg k, n_ld c, n_ls k ++ n_ls c) .leaf b)) = n_ls k ++ (tr_its (.inner z c u lc rc) ++ tr_its b) := by
          simp [tr_its, i2, i4, n_ls]
        refine s_siftL htop n (sm h (pm_u (pm_u M2 (f + 2) c.1 (-1)) (f + 14) k.1 (-1))) (k.1, n_rk k, n_tg k, n_ld c, n_ls k ++ n_ls c) .leaf b p (i + 1) k' l' r' m2 e1 (hFm _) hP n4 trivial cb3 trivial wb htg (Or.inr wc2) ⟨Or.inl rfl, tb1, trivial, tb2⟩ hid3 (by rw [hits3]; exact hit2) (by rw [hits3]; exact hlen2) ?_ (by omega) ?_
        · rcases ht2 with q | q
          · exact Or.inl q
          · refine Or.inr fun y => ?_
            rcases List.mem_cons.mp y with y | y
            · exact q.1 y
            · exact q.2.2 (by simpa [tr_ids] using y)
        · intro M' u1 u2 u3 u4 u5
          rw [show i + 1 + m2 = i + (m2 + 1) by omega]
          refine w M' u1 u2 u3 ((frA.trans (fr3.mono hA (fun j hj => by cases hj))).trans (u4.mono (fun j hj => ?_) (fun j hj => ?_))) (fun j hj hn => ?_)
          · rw [mid]
            rcases List.mem_cons.mp hj with y | y
            · exact Or.inl y
            · exact Or.inr (Or.inr (by simpa [tr_ids] using y))
          · rw [mit]
            rw [hits3] at hj
            rcases List.mem_append.mp hj with y | y
            · exact Or.inl y
            · exact Or.inr (List.mem_append.mp y)
          · by_cases hj2 : j ∈ tr_ids (tn (k.1, n_rk k, n_tg k, n_ld c, n_ls k ++ n_ls c) .leaf b)
            · exact u5 j hj2 hn
            · have hjc : j = c.1 := by
                rw [mid] at hj
                rcases hj with y | y | y
                · exact absurd (by rw [y]; exact List.mem_cons_self) hj2
                · rcases List.mem_cons.mp y with y | y
                  · exact y
                  · rw [i1, i3] at y; cases y
                · exact absurd (List.mem_cons_of_mem _ (by simpa [tr_ids] using y)) hj2
              rw [u4.node (q := 1) (by decide) hj2, hjc]
              simp [pm_u, gi, sm]
      · cases q
        have eL2 : (if tr_no lc = -1 ∧ tr_no rc = -1 then (1 : Int32) else 0) = 0 := if_neg fun q => b1 ⟨(tr_no_m1 clc2).mp q.1, (tr_no_m1 crc2).mp q.2⟩
        rw [eL2, if_pos rfl]
        obtain ⟨g1, g2, g3, g4, g5, g6, g7, g8⟩ := siftF_spec n _ _ _ _ _ _ _ e1 wlc wrc na wc3 ta2 (Or.inl rfl)
        have g9 := g8 (Or.inr b1)
        have hct : ¬ c.1 = top := fun q => by
          rcases ht2 with y | y
          · exact hkc (y.symm.trans q.symm)
          · exact y.2.1 (by rw [← q]; exact List.mem_cons_self)
        have hidc : (tr_ids (tn (c.1, n_rk c, n_tg c, n_ld c, []) lc rc)).Nodup := na
        have hsubI : ∀ j, j ∈ tr_its (tn (c.1, n_rk c, n_tg c, n_ld c, []) lc rc) → j ∈ tr_its lc ∨ j ∈ tr_its rc := fun j hj => by simpa [tr_its, n_ls] using hj
        refine s_siftL htop n (sm h M2) (c.1, n_rk c, n_tg c, n_ld c, []) lc rc (nI k.1) (i + 1) c' lc' rc' m1 e1 (hFm _) hP n3 clc2 crc2 wlc wrc wc3 (Or.inl rfl) ta2 hidc (by simpa [tr_its, n_ls] using jlr) (by
          simp only [tr_its, n_ls, List.length_append, List.length_nil] at hlen2 ⊢
          omega) (Or.inr ?_) (by omega) ?_
        · rcases ht2 with y | y
          · rw [y]; exact hka
          · exact y.2.1
        · intro M4 u1 u2 u3 u4 u5
          have hct2 : ¬ (((c.1, n_rk c, n_tg c, n_ld c, []) : Nd).1 = top) := hct
          rw [if_neg hct2]
          have u4' : Fr M2 M4 f (tr_ids (.inner z c u lc rc)) (tr_its lc ++ tr_its rc) := u4.mono (fun j hj => hj) (fun j hj => List.mem_append.mpr (hsubI j hj))
          have n5 : NN M4 f p (k.1, n_rk k, n_tg k, n_ld c, n_ls k ++ n_ls c) (tr_no (tn c' lc' rc')) (tr_no b) := by
            have : tr_no (tn c' lc' rc') = nI c.1 := by show nI c'.1 = _; rw [g1.1]
            rw [this]
            exact n2.congr (u4'.ag (fun j hj q => hka (by rw [List.mem_singleton] at hj; exact hj ▸ q)) (fun j hj q => hjl j (List.mem_append.mp q) hj))
          have n6 : NC M4 f (nI k.1) (tn c' lc' rc') := by
            have e9 : c'.1 = c.1 := g1.1
            refine ⟨u1, ?_, ?_⟩
            · rw [e9]; exact u2
            · rw [e9]; exact u3
          have cb4 : NC M4 f (nI k.1) b := u4'.nc cb2 (fun j hj q => ndis j q j hj rfl) (fun j hj q => jdis2 j (List.mem_append_right _ q) j hj rfl)
          have hid5 : (tr_ids (tn (k.1, n_rk k, n_tg k, n_ld c, n_ls k ++ n_ls c) (tn c' lc' rc') b)).Nodup := by
            refine List.nodup_cons.mpr ⟨fun q => nk ?_, List.nodup_append.mpr ⟨g3, nb, fun x hx y hy => ndis x (g2 x hx) y hy⟩⟩
            rcases List.mem_append.mp q with q | q
            · exact List.mem_append_left _ (g2 _ q)
            · exact List.mem_append_right _ q
          have hpm : (tr_its (tn (k.1, n_rk k, n_tg k, n_ld c, n_ls k ++ n_ls c) (tn c' lc' rc') b)).Perm (n_ls k ++ (tr_its (.inner z c u lc rc) ++ tr_its b)) := by
            show (n_ls k ++ n_ls c ++ (tr_its (tn c' lc' rc') ++ tr_its b)).Perm _
            have : n_ls k ++ (tr_its (.inner z c u lc rc) ++ tr_its b) = n_ls k ++ n_ls c ++ ((tr_its lc ++ tr_its rc) ++ tr_its b) := by simp [tr_its]
            rw [this]
            exact List.Perm.append_left _ (List.Perm.append_right _ g4)
          have hF4 : Fa (sm h M4) f := hF
          refine s_siftL htop n (sm h M4) (k.1, n_rk k, n_tg k, n_ld c, n_ls k ++ n_ls c) (tn c' lc' rc') b p (i + 1 + m1) k' l' r' m2 e2 hF4 hP n5 n6 cb4 ⟨⟨g9.1, g9.2, by rw [g1.2.2]; exact wc3⟩, g5, g6⟩ wb htg (Or.inr wc2) ⟨Or.inr (by show n_rk c' < n_rk k; rw [g1.2.1]; exact hrk), tb1, g7, tb2⟩ hid5 (hpm.nodup_iff.mpr hit2) (by rw [hpm.length_eq]; exact hlen2) ?_ (by omega) ?_
          · rcases ht2 with y | y
            · exact Or.inl y
            · refine Or.inr fun q => ?_
              rcases List.mem_cons.mp q with q | q
              · exact y.1 q
              · rcases List.mem_append.mp q with q | q
                · exact y.2.1 (g2 _ q)
                · exact y.2.2 q
          · intro M' y1 y2 y3 y4 y5
            rw [show i + 1 + m1 + m2 = i + (m2 + m1 + 1) by omega]
            have mids : ∀ j, j ∈ tr_ids (tn (k.1, n_rk k, n_tg k, n_ld c, n_ls k ++ n_ls c) (tn c' lc' rc') b) → j ∈ tr_ids (tn k l r) := fun j hj => by
              rw [mid]
              rcases List.mem_cons.mp hj with q | q
              · exact Or.inl q
              · rcases List.mem_append.mp q with q | q
                · exact Or.inr (Or.inl (g2 _ q))
                · exact Or.inr (Or.inr q)
            have mits : ∀ j, j ∈ tr_its (tn (k.1, n_rk k, n_tg k, n_ld c, n_ls k ++ n_ls c) (tn c' lc' rc') b) → j ∈ tr_its (tn k l r) := fun j hj => by
              rw [mit]
              rcases List.mem_append.mp (hpm.mem_iff.mp hj) with q | q
              · exact Or.inl q
              · exact Or.inr (List.mem_append.mp q)
            have u4'' : Fr M2 M4 f (tr_ids (tn k l r)) (tr_its (tn k l r)) := u4'.mono (fun j hj => by rw [mid]; exact Or.inr (Or.inl hj)) (fun j hj => by rw [mit]; exact Or.inr (Or.inl (List.mem_append_right _ hj)))
            refine w M' y1 y2 y3 ((frA.trans u4'').trans (y4.mono mids mits)) (fun j hj hn => ?_)
            by_cases hj2 : j ∈ tr_ids (tn (k.1, n_rk k, n_tg k, n_ld c, n_ls k ++ n_ls c) (tn c' lc' rc') b)
            · exact y5 j hj2 hn
            · rw [y4.node (q := 1) (by decide) hj2]
              rw [mid] at hj
              rcases hj with q | q | q
              · exact absurd (by rw [q]; exact List.mem_cons_self) hj2
              · exact u5 j q (fun x => hj2 (List.mem_cons_of_mem _ (List.mem_append_left _ x)))
              · exact absurd (List.mem_cons_of_mem _ (List.mem_append_right _ q)) hj2
end SFC
