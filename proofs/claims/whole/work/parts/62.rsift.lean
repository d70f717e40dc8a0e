/-! THE REFERENCE: SIFT -/
def rLt (ky : Nat → Int32) (a b : Nat) : Bool := decide (ky a < ky b)
theorem NR.lt24 {ky S : Nat → Int32} {b : Nat} : ∀ {T : Tr}, NR ky S b T → ∀ j ∈ tr_ids T, j < 24
  | .leaf, _, j, hj => by cases hj
  | .inner _ k _ l r, ⟨h1, h2, h3⟩, j, hj => by
    rcases List.mem_cons.mp hj with q | q
    · rw [q]; exact h1.1
    · rcases List.mem_append.mp q with q | q
      · exact h2.lt24 j q
      · exact h3.lt24 j q
section RSI
variable {G : pm_G} {h : pm_H}
theorem r_siftL {ky : Nat → Int32} {b : Nat} (hM : Md h) (hb : b + 320 ≤ 4485) : ∀ (n : Nat) (D : Nat) (post : pm_PT) (S : Nat → Int32) (k : Nd) (l r : Tr) (k' : Nd) (l' r' : Tr) (m : Nat), siftF (rLt ky) n k l r = some (k', l', r', m) →
    RN ky S b k (tr_no l) (tr_no r) → NR ky S b l → NR ky S b r → TW l → TW r → 0 < n_tg k → TR (tn k l r) → (tr_ids (tn k l r)).Nodup → (tr_its (tn k l r)).Nodup → (tr_its (tn k l r)).length ≤ 20 → n_rk k ≤ D →
    (∀ S', RN ky S' b k' (tr_no l') (tr_no r') → NR ky S' b l' → NR ky S' b r' → RF S S' b (tr_ids (tn k l r)) (tr_its (tn k l r)) → (∀ j ∈ tr_ids (tn k l r), j ∉ tr_ids (tn k' l' r') → S' (b + 8 * j) = -1) → post none (s8 h S')) →
    Wp G (m_X12_sifts, D + 3, 0, 0, post) (0, 0) 0 [.ref 446, .int (nI b), .int (nI k.1), .null, .null] [] (s8 h S)
  | 0, D, post, S, k, l, r, k', l', r', m, e, _, _, _, _, _, _, _, _, _, _, _, _ => by cases e
  | n + 1, D, post, S, k, l, r, k', l', r', m, e, hk, hl, hr, wl, wr', htg, htr, hid, hit, hlen, hD, w => by
    have hk' := hk
    obtain ⟨k0, k1, k2, k3, k4, k5, k6, k7, k8, k9, k10⟩ := hk
    rcases siftF_step e with ⟨c, q⟩ | ⟨c1, c2, z, c, u, lc, rc, he, hc⟩
    · cases q
      refine x_X12_sifts ⟨hM.1, r_nodeOf (w := 3) hM (by omega) ⟨hM.1, r_nodeOf (w := 1) hM (by omega) ?_⟩⟩
      rw [k4, k2]
      by_cases q : nI (n_ls k).length < n_tg k
      · rw [if_neg (Int32.not_le.mpr q)]
        have c' := c.resolve_left (fun z => z q)
        refine ⟨hM.1, r_isLeaf (ky := ky) (l := l) (r := r) hM (by omega) hl hr k7 k8 ?_⟩
        rw [if_pos c', if_neg (by decide)]
        exact w S hk' hl hr RF.rfl' (fun j h1 h2 => absurd h1 h2)
      · rw [if_pos (Int32.not_lt.mp q)]
        exact w S hk' hl hr RF.rfl' (fun j h1 h2 => absurd h1 h2)
    · refine x_X12_sifts ⟨hM.1, r_nodeOf (w := 3) hM (by omega) ⟨hM.1, r_nodeOf (w := 1) hM (by omega) ?_⟩⟩
      rw [k4, k2, if_neg (Int32.not_le.mpr c1)]
      refine ⟨hM.1, r_isLeaf (ky := ky) (l := l) (r := r) hM (by omega) hl hr k7 k8 ?_⟩
      rw [if_neg c2, if_pos rfl]
      refine ⟨hM.1, r_nodeOf (w := 6) hM (by omega) ⟨hM.1, r_nodeOf (w := 7) hM (by omega) ?_⟩⟩
      rw [k7, k8]
      -- the chosen one is the first then
      have pick : (∀ S1, RN ky S1 b k (tr_no (if swp (rLt ky) l r then r else l)) (tr_no (if swp (rLt ky) l r then l else r)) → RF S S1 b [k.1] [] → Wp G (m_X12_sifts, D + 2 + 1, 0, 0, post) (0, 0) 94 [.ref 446, .int (nI b), .int (nI k.1), .int (tr_no (if swp (rLt ky) l r then r else l)), .null] [] (s8 h S1)) → (if tr_no l < 0 then
            (s8 h S).1[446]? = some (0, 11) ∧ cv G (D + 2) m_X12_lays [.ref 446, .int (nI b), .int (nI k.1), .int 6, .int (tr_no r)] (s8 h S) fun h12 => h12.1[446]? = some (0, 11) ∧ cv G (D + 2) m_X12_lays [.ref 446, .int (nI b), .int (nI k.1), .int 7, .int (tr_no l)] h12 fun h14 => Wp G (m_X12_sifts, D + 2 + 1, 0, 0, post) (0, 0) 94 [.ref 446, .int (nI b), .int (nI k.1), .int (tr_no r), .null] [] h14
          else if tr_no r < 0 then Wp G (m_X12_sifts, D + 2 + 1, 0, 0, post) (0, 0) 94 [.ref 446, .int (nI b), .int (nI k.1), .int (tr_no l), .null] [] (s8 h S)
          else (s8 h S).1[446]? = some (0, 11) ∧ ci G (D + 2) m_X12_nodeOf [.ref 446, .int (nI b), .int (tr_no r), .int 2] (s8 h S) fun r15 h16 => h16.1[446]? = some (0, 11) ∧ ci G (D + 2) m_X12_nodeOf [.ref 446, .int (nI b), .int (tr_no l), .int 2] h16 fun r17 h18 => if r17 ≤ r15 then Wp G (m_X12_sifts, D + 2 + 1, 0, 0, post) (0, 0) 94 [.ref 446, .int (nI b), .int (nI k.1), .int (tr_no l), .null] [] h18
            else h18.1[446]? = some (0, 11) ∧ cv G (D + 2) m_X12_lays [.ref 446, .int (nI b), .int (nI k.1), .int 6, .int (tr_no r)] h18 fun h20 => h20.1[446]? = some (0, 11) ∧ cv G (D + 2) m_X12_lays [.ref 446, .int (nI b), .int (nI k.1), .int 7, .int (tr_no l)] h20 fun h22 => Wp G (m_X12_sifts, D + 2 + 1, 0, 0, post) (0, 0) 94 [.ref 446, .int (nI b), .int (nI k.1), .int (tr_no r), .null] [] h22) := by
        intro g
        have swapped : RN ky (up1 (up1 S (b + 8 * k.1 + 6) (tr_no r)) (b + 8 * k.1 + 7) (tr_no l)) b k (tr_no r) (tr_no l) ∧ RF S (up1 (up1 S (b + 8 * k.1 + 6) (tr_no r)) (b + 8 * k.1 + 7) (tr_no l)) b [k.1] [] := by
          refine ⟨⟨k0, ?_, ?_, fun q => ?_, ?_, ?_, fun q => ?_, ?_, ?_, LC.congr (fun t ht => ?_) k9, k10⟩, (RF.u (w := 6) (by simp) (by decide)).trans (RF.u (w := 7) (by simp) (by decide))⟩
          · rw [up1_ne _ _ (by omega), up1_ne _ _ (by omega)]; exact k1
          · rw [up1_ne _ _ (by omega), up1_ne _ _ (by omega)]; exact k2
          · rw [up1_ne _ _ (by omega), up1_ne _ _ (by omega)]; exact k3 q
          · rw [up1_ne _ _ (by omega), up1_ne _ _ (by omega)]; exact k4
          · rw [up1_ne _ _ (by omega), up1_ne _ _ (by omega)]; exact k5
          · rw [up1_ne _ _ (by omega), up1_ne _ _ (by omega)]; exact k6 q
          · rw [up1_ne _ _ (by omega), up1_at]
          · rw [up1_at]
          · rw [up1_ne _ _ (by omega), up1_ne _ _ (by omega)]
        by_cases q1 : isL l = true
        · rw [if_pos (hl.m1.2.1.mpr q1)]
          have hs : swp (rLt ky) l r = true := by unfold swp; rw [q1]; rfl
          simp only [hs, if_true] at g
          exact ⟨hM.1, r_lays (w := 6) hM (by omega) ⟨hM.1, r_lays (w := 7) hM (by omega) (g _ swapped.1 swapped.2)⟩⟩
        · rw [if_neg (fun z => q1 (hl.m1.2.1.mp z))]
          have q1' : isL l = false := by simpa using q1
          by_cases q2 : isL r = true
          · rw [if_pos (hr.m1.2.1.mpr q2)]
            have hs : swp (rLt ky) l r = false := by unfold swp; rw [q1', q2]; rfl
            simp only [hs] at g
            exact g S hk' RF.rfl'
          · rw [if_neg (fun z => q2 (hr.m1.2.1.mp z))]
            have q2' : isL r = false := by simpa using q2
            cases l with
            | leaf => cases q1'
            | inner zl kl ul ll rl =>
              cases r with
              | leaf => cases q2'
              | inner zr kr ur lr rr =>
                have hl0 := hl.1.1
                have hr0 := hr.1.1
                refine ⟨hM.1, r_nodeOf (w := 2) (n := kr.1) hM (by omega) ⟨hM.1, r_nodeOf (w := 2) (n := kl.1) hM (by omega) ?_⟩⟩
                rw [hr.1.2.2.2.1 wr'.1.1, hl.1.2.2.2.1 wl.1.1]
                by_cases q3 : ky (n_ld kr) < ky (n_ld kl)
                · rw [if_neg (Int32.not_le.mpr q3)]
                  have hs : swp (rLt ky) (.inner zl kl ul ll rl) (.inner zr kr ur lr rr) = true := by
                    show (false || (!false && decide (ky (n_ld kr) < ky (n_ld kl)))) = true
                    rw [decide_eq_true q3]; rfl
                  simp only [hs, if_true] at g
                  exact ⟨hM.1, r_lays (w := 6) hM (by omega) ⟨hM.1, r_lays (w := 7) hM (by omega) (g _ swapped.1 swapped.2)⟩⟩
                · rw [if_pos (Int32.not_lt.mp q3)]
                  have hs : swp (rLt ky) (.inner zl kl ul ll rl) (.inner zr kr ur lr rr) = false := by
                    show (false || (!false && decide (ky (n_ld kr) < ky (n_ld kl)))) = false
                    rw [decide_eq_false q3]; rfl
                  simp only [hs] at g
                  exact g S hk' RF.rfl'
      refine pick fun S1 n1 fr1 => ?_
      obtain ⟨wa, wb⟩ := swp_get (b := swp (rLt ky) l r) wl wr'
      obtain ⟨t1, t2, t3, t4⟩ := htr
      obtain ⟨⟨ta1, ta2⟩, tb1, tb2⟩ := swp_get (P := fun T => (isL T = true ∨ tr_rk T < n_rk k) ∧ TR T) (b := swp (rLt ky) l r) ⟨t1, t3⟩ ⟨t2, t4⟩
      obtain ⟨ca, cb⟩ := swp_get (P := fun T => NR ky S b T) (b := swp (rLt ky) l r) hl hr
      have hpi := tr_swp tr_ids (swp (rLt ky) l r) l r
      have hpt := tr_swp tr_its (swp (rLt ky) l r) l r
      clear pick
      rw [he] at wa ta1 ta2 hpi hpt ca n1 ⊢
      generalize (if swp (rLt ky) l r then l else r) = o at *
      have hid2 : (k.1 :: (tr_ids (.inner z c u lc rc) ++ tr_ids o)).Nodup := (List.Perm.cons _ hpi).nodup_iff.mpr hid
      have hit2 : (n_ls k ++ (tr_its (.inner z c u lc rc) ++ tr_its o)).Nodup := (List.Perm.append_left _ hpt).nodup_iff.mpr hit
      have hlen2 : (n_ls k ++ (tr_its (.inner z c u lc rc) ++ tr_its o)).length ≤ 20 := by rw [(List.Perm.append_left (n_ls k) hpt).length_eq]; exact hlen
      have mid : ∀ j, j ∈ tr_ids (tn k l r) ↔ j = k.1 ∨ j ∈ tr_ids (.inner z c u lc rc) ∨ j ∈ tr_ids o := fun j => by
        have := hpi.mem_iff (a := j)
        simp only [List.mem_append] at this
        simp only [tr_ids, List.mem_cons, List.mem_append] at this ⊢
        rw [← this]
      have mit : ∀ j, j ∈ tr_its (tn k l r) ↔ j ∈ n_ls k ∨ j ∈ tr_its (.inner z c u lc rc) ∨ j ∈ tr_its o := fun j => by
        have := hpt.mem_iff (a := j)
        simp only [List.mem_append] at this
        simp only [tr_its, List.mem_append] at this ⊢
        rw [← this]
      obtain ⟨nk, nab⟩ := List.nodup_cons.mp hid2
      obtain ⟨na, nb, ndis⟩ := List.nodup_append.mp nab
      obtain ⟨jk, jab, jdis⟩ := List.nodup_append.mp hit2
      obtain ⟨ja, jb, jdis2⟩ := List.nodup_append.mp jab
      have hka : k.1 ∉ tr_ids (.inner z c u lc rc) := fun q => nk (List.mem_append_left _ q)
      have hkb : k.1 ∉ tr_ids o := fun q => nk (List.mem_append_right _ q)
      have hkc : k.1 ≠ c.1 := fun q => hka (by rw [q]; exact List.mem_cons_self)
      have hs1 : ∀ i ∈ [k.1], i < 24 := fun i hi => by rw [List.mem_singleton] at hi; rw [hi]; exact k0
      have ca1 : NR ky S1 b (.inner z c u lc rc) := fr1.nr hs1 ca (fun j hj q => hka (by rw [List.mem_singleton] at q; exact q ▸ hj)) (fun j _ q => by cases q)
      have cb1 : NR ky S1 b o := fr1.nr hs1 cb (fun j hj q => hkb (by rw [List.mem_singleton] at q; exact q ▸ hj)) (fun j _ q => by cases q)
      obtain ⟨nc1, clc1, crc1⟩ := ca1
      obtain ⟨⟨wc1, wc2, wc3⟩, wlc, wrc⟩ := wa
      have hnd : (n_ls k ++ n_ls c).Nodup := by
        refine hit2.sublist (List.Sublist.append_left ?_ _)
        simp only [tr_its, List.append_assoc]
        exact List.sublist_append_left _ _
      have hln : (n_ls k ++ n_ls c).length ≤ 20 := by
        simp only [tr_its, List.length_append] at hlen2 ⊢
        omega
      have c0 := nc1.1
      refine x_X12_sifts_94 ⟨hM.1, ?_⟩
      rw [show tr_no (.inner z c u lc rc) = nI c.1 from rfl]
      rw [show tr_no (.inner z c u lc rc) = nI c.1 from rfl] at n1
      refine r_pours (d := D) hM hb n1 nc1 hkc wc1 hnd hln (fun S2 fr2 p1 p3 p4 p5 q3 q4 pL => ⟨hM.1, r_nodeOf (w := 2) hM (by omega) ⟨hM.1, r_lays (w := 2) hM (by omega) ?_⟩⟩)
      rw [p1 c.1 2 (by decide) (by decide) (by decide) (by decide) c0, nc1.2.2.2.1 wc1]
      have n2 : RN ky (up1 S2 (b + 8 * k.1 + 2) (ky (n_ld c))) b (k.1, n_rk k, n_tg k, n_ld c, n_ls k ++ n_ls c) (nI c.1) (tr_no o) := by
        obtain ⟨v0, v1, v2, v3, v4, v5, v6, v7, v8, v9, v10⟩ := n1
        refine ⟨v0, ?_, ?_, fun q => ?_, ?_, ?_, fun q => ?_, ?_, ?_, LC.congr (fun t ht => ?_) pL, fun t ht => ?_⟩
        · rw [up1_ne _ _ (by omega)]; exact (p1 k.1 0 (by decide) (by decide) (by decide) (by decide) k0).trans v1
        · rw [up1_ne _ _ (by omega)]; exact (p1 k.1 1 (by decide) (by decide) (by decide) (by decide) k0).trans v2
        · exact up1_at _ _ _
        · rw [up1_ne _ _ (by omega)]; exact p3
        · rw [up1_ne _ _ (by omega)]; exact p4
        · rw [up1_ne _ _ (by omega)]; exact p5
        · rw [up1_ne _ _ (by omega)]; exact (p1 k.1 6 (by decide) (by decide) (by decide) (by decide) k0).trans v7
        · rw [up1_ne _ _ (by omega)]; exact (p1 k.1 7 (by decide) (by decide) (by decide) (by decide) k0).trans v8
        · exact up1_ne _ _ (by omega)
        · rcases List.mem_append.mp ht with q | q
          · exact v10 t q
          · exact nc1.2.2.2.2.2.2.2.2.2.2 t q
      have n3 : RN ky (up1 S2 (b + 8 * k.1 + 2) (ky (n_ld c))) b (c.1, n_rk c, n_tg c, n_ld c, []) (tr_no lc) (tr_no rc) := by
        obtain ⟨v0, v1, v2, v3, v4, v5, v6, v7, v8, v9, v10⟩ := nc1
        refine ⟨v0, ?_, ?_, fun q => absurd rfl q, ?_, ?_, fun q => absurd rfl q, ?_, ?_, trivial, fun t ht => (by cases ht)⟩
        · rw [up1_ne _ _ (by omega)]; exact (p1 c.1 0 (by decide) (by decide) (by decide) (by decide) c0).trans v1
        · rw [up1_ne _ _ (by omega)]; exact (p1 c.1 1 (by decide) (by decide) (by decide) (by decide) c0).trans v2
        · rw [up1_ne _ _ (by omega)]; exact q3
        · rw [up1_ne _ _ (by omega)]; exact q4
        · rw [up1_ne _ _ (by omega)]; exact (p1 c.1 6 (by decide) (by decide) (by decide) (by decide) c0).trans v7
        · rw [up1_ne _ _ (by omega)]; exact (p1 c.1 7 (by decide) (by decide) (by decide) (by decide) c0).trans v8
      have fr3 : RF S1 (up1 S2 (b + 8 * k.1 + 2) (ky (n_ld c))) b [k.1, c.1] (n_ls k) := fr2.trans (RF.u (w := 2) (by simp) (by decide))
      generalize up1 S2 (b + 8 * k.1 + 2) (ky (n_ld c)) = S3 at n2 n3 fr3 ⊢
      have hs2 : ∀ i ∈ [k.1, c.1], i < 24 := fun i hi => by
        simp only [List.mem_cons, List.not_mem_nil, or_false] at hi
        rcases hi with q | q
        · rw [q]; exact k0
        · rw [q]; exact c0
      obtain ⟨ncl, nlr⟩ := List.nodup_cons.mp (show (c.1 :: (tr_ids lc ++ tr_ids rc)).Nodup from na)
      obtain ⟨nl, nr, nlrd⟩ := List.nodup_append.mp nlr
      obtain ⟨jc, jlr, jcd⟩ := List.nodup_append.mp (show (n_ls c ++ (tr_its lc ++ tr_its rc)).Nodup from ja)
      obtain ⟨jl, jr, jlrd⟩ := List.nodup_append.mp jlr
      have hkl : ∀ j, j ∈ tr_ids lc ∨ j ∈ tr_ids rc → j ∉ [k.1, c.1] := fun j hj q => by
        have hj2 := List.mem_append.mpr hj
        simp only [List.mem_cons, List.not_mem_nil, or_false] at q
        rcases q with q | q
        · exact hka (by rw [← q]; exact List.mem_cons_of_mem _ hj2)
        · exact ncl (by rw [← q]; exact hj2)
      have hjl : ∀ j, j ∈ tr_its lc ∨ j ∈ tr_its rc → j ∉ n_ls k := fun j hj q => jdis j q j (List.mem_append_left _ (List.mem_append_right _ (List.mem_append.mpr hj))) rfl
      have clc2 : NR ky S3 b lc := fr3.nr hs2 clc1 (fun j hj => hkl j (Or.inl hj)) (fun j hj => hjl j (Or.inl hj))
      have crc2 : NR ky S3 b rc := fr3.nr hs2 crc1 (fun j hj => hkl j (Or.inr hj)) (fun j hj => hjl j (Or.inr hj))
      have cb2 : NR ky S3 b o := fr3.nr hs2 cb1 (fun j hj q => by
        simp only [List.mem_cons, List.not_mem_nil, or_false] at q
        rcases q with q | q
        · exact hkb (q ▸ hj)
        · exact ndis c.1 List.mem_cons_self j hj q.symm) (fun j hj q => jdis j q j (List.mem_append_right _ hj) rfl)
      have hA : ∀ j, j ∈ [k.1, c.1] → j ∈ tr_ids (tn k l r) := fun j hj => by
        rw [mid]
        simp only [List.mem_cons, List.not_mem_nil, or_false] at hj
        rcases hj with q | q
        · exact Or.inl q
        · exact Or.inr (Or.inl (by rw [q]; exact List.mem_cons_self))
      have frA : RF S S3 b (tr_ids (tn k l r)) (tr_its (tn k l r)) := (fr1.mono (fun j hj => hA j (by rw [List.mem_singleton] at hj; simp [hj])) (fun j hj => by cases hj)).trans (fr3.mono hA (fun j hj => (mit j).mpr (Or.inl hj)))
      have hrk : n_rk c < n_rk k := by
        rcases ta1 with q | q
        · cases q
        · exact q
      refine ⟨hM.1, r_isLeaf (ky := ky) (l := lc) (r := rc) hM (by omega) clc2 crc2 n3.2.2.2.2.2.2.2.1 n3.2.2.2.2.2.2.2.2.1 ?_⟩
      rcases hc with ⟨b1, b2, k2', l2, r2, m2, e1, q⟩ | ⟨b1, c', lc', rc', m1, k2', l2, r2, m2, e1, e2, q⟩
      · cases q
        obtain ⟨i1, i2⟩ := isL_ids b1
        obtain ⟨i3, i4⟩ := isL_ids b2
        have z1 : ¬ (if isL lc = true ∧ isL rc = true then (1 : Int32) else 0) = 0 := by rw [if_pos ⟨b1, b2⟩]; decide
        rw [if_neg z1]
        refine ⟨hM.1, r_frees (d := D) hM (by omega) ⟨hM.1, r_lays (w := 6) hM (by omega) ?_⟩⟩
        have fr4 : RF S3 (up1 (fr8 S3 b c.1 8) (b + 8 * k.1 + 6) (-1)) b [k.1, c.1] [] := (RF.fr (by simp)).trans (RF.u (w := 6) (by simp) (by decide))
        have e0 : up1 (fr8 S3 b c.1 8) (b + 8 * k.1 + 6) (-1) (b + 8 * c.1) = -1 := by
          rw [up1_ne _ _ (by omega)]
          exact if_pos ⟨Nat.le_refl _, by omega⟩
        have cb3 := fr4.nr hs2 cb2 (fun j hj q => by
          simp only [List.mem_cons, List.not_mem_nil, or_false] at q
          rcases q with q | q
          · exact hkb (q ▸ hj)
          · exact ndis c.1 List.mem_cons_self j hj q.symm) (fun j _ q => by cases q)
        have f8 : ∀ i, ¬ (b + 8 * c.1 ≤ i ∧ i < b + 8 * c.1 + 8) → fr8 S3 b c.1 8 i = S3 i := fun i hi => if_neg hi
        have n4 : RN ky (up1 (fr8 S3 b c.1 8) (b + 8 * k.1 + 6) (-1)) b (k.1, n_rk k, n_tg k, n_ld c, n_ls k ++ n_ls c) (tr_no .leaf) (tr_no o) := by
          obtain ⟨v0, v1, v2, v3, v4, v5, v6, v7, v8, v9, v10⟩ := n2
          refine ⟨v0, ?_, ?_, fun q => ?_, ?_, ?_, fun q => ?_, ?_, ?_, LC.congr (fun t ht => ?_) v9, v10⟩
          · rw [up1_ne _ _ (by omega), f8 _ (by omega)]; exact v1
          · rw [up1_ne _ _ (by omega), f8 _ (by omega)]; exact v2
          · rw [up1_ne _ _ (by omega), f8 _ (by omega)]; exact v3 q
          · rw [up1_ne _ _ (by omega), f8 _ (by omega)]; exact v4
          · rw [up1_ne _ _ (by omega), f8 _ (by omega)]; exact v5
          · rw [up1_ne _ _ (by omega), f8 _ (by omega)]; exact v6 q
          · rw [up1_at]; rfl
          · rw [up1_ne _ _ (by omega), f8 _ (by omega)]; exact v8
          · show up1 (fr8 S3 b c.1 8) (b + 8 * k.1 + 6) (-1) (b + 300 + t) = _
            rw [up1_ne _ _ (by omega), f8 _ (by omega)]
        generalize up1 (fr8 S3 b c.1 8) (b + 8 * k.1 + 6) (-1) = S4 at n4 cb3 e0 fr4 ⊢
        have hid3 : (tr_ids (tn (k.1, n_rk k, n_tg k, n_ld c, n_ls k ++ n_ls c) .leaf o)).Nodup := by
          show (k.1 :: ([] ++ tr_ids o)).Nodup
          exact List.nodup_cons.mpr ⟨by simpa using hkb, by simpa using nb⟩
        have hits3 : (tr_its (tn (k.1, n_rk k, n_tg k, n_ld c, n_ls k ++ n_ls c) .leaf o)) = n_ls k ++ (tr_its (.inner z c u lc rc) ++ tr_its o) := by
          simp [tr_its, i2, i4, n_ls]
        refine r_siftL hM hb n D post S4 (k.1, n_rk k, n_tg k, n_ld c, n_ls k ++ n_ls c) .leaf o k' l' r' m2 e1 n4 trivial cb3 trivial wb htg ⟨Or.inl rfl, tb1, trivial, tb2⟩ hid3 (by rw [hits3]; exact hit2) (by rw [hits3]; exact hlen2) hD (fun S' u1 u2 u3 u4 u5 => ?_)
        refine w S' u1 u2 u3 ((frA.trans (fr4.mono hA (fun j hj => by cases hj))).trans (u4.mono (fun j hj => ?_) (fun j hj => ?_))) (fun j hj hn => ?_)
        · rw [mid]
          rcases List.mem_cons.mp hj with y | y
          · exact Or.inl y
          · exact Or.inr (Or.inr (by simpa [tr_ids] using y))
        · rw [mit]
          rw [hits3] at hj
          rcases List.mem_append.mp hj with y | y
          · exact Or.inl y
          · exact Or.inr (List.mem_append.mp y)
        · by_cases hj2 : j ∈ tr_ids (tn (k.1, n_rk k, n_tg k, n_ld c, n_ls k ++ n_ls c) .leaf o)
          · exact u5 j hj2 hn
          · have hjc : j = c.1 := by
              rw [mid] at hj
              rcases hj with y | y | y
              · exact absurd (by rw [y]; exact List.mem_cons_self) hj2
              · rcases List.mem_cons.mp y with y | y
                · exact y
                · rw [i1, i3] at y; cases y
              · exact absurd (List.mem_cons_of_mem _ (by simpa [tr_ids] using y)) hj2
            rw [hjc]
            exact (u4.node (w := 0) (hjc ▸ hj2) c0 (by decide)).trans e0
      · cases q
        have z1 : (if isL lc = true ∧ isL rc = true then (1 : Int32) else 0) = 0 := if_neg b1
        rw [if_pos z1]
        obtain ⟨g1, g2, g3, g4, g5, g6, g7, g8⟩ := siftF_spec n _ _ _ _ _ _ _ e1 wlc wrc na wc3 ta2 (Or.inl rfl)
        have g9 := g8 (Or.inr b1)
        obtain ⟨D', rfl⟩ : ∃ D', D = D' + 1 := ⟨D - 1, by omega⟩
        have hsubI : ∀ j, j ∈ tr_its (tn (c.1, n_rk c, n_tg c, n_ld c, []) lc rc) → j ∈ tr_its lc ++ tr_its rc := fun j hj => by simpa [tr_its, n_ls] using hj
        refine ⟨hM.1, cv_wp rfl (Nat.le_of_ble_eq_true rfl) rfl ?_⟩
        refine r_siftL hM hb n D' _ S3 (c.1, n_rk c, n_tg c, n_ld c, []) lc rc c' lc' rc' m1 e1 n3 clc2 crc2 wlc wrc wc3 ta2 na (by simpa [tr_its, n_ls] using jlr) (by
          simp only [tr_its, n_ls, List.length_append, List.length_nil] at hlen2 ⊢
          omega) (by show n_rk c ≤ D'; omega) (fun S4 u1 u2 u3 u4 u5 => ⟨rfl, ?_⟩)
        have hs3 : ∀ i ∈ tr_ids (tn (c.1, n_rk c, n_tg c, n_ld c, []) lc rc), i < 24 := fun i hi => by
          rcases List.mem_cons.mp hi with q | q
          · rw [q]; exact c0
          · rcases List.mem_append.mp q with q | q
            · exact clc2.lt24 i q
            · exact crc2.lt24 i q
        have u4' : RF S3 S4 b (tr_ids (tn (c.1, n_rk c, n_tg c, n_ld c, []) lc rc)) (tr_its lc ++ tr_its rc) := u4.mono (fun j hj => hj) hsubI
        have hjlk : ∀ j, j ∈ tr_its lc ++ tr_its rc → j ∉ n_ls k ++ n_ls c := fun j hj q => by
          rcases List.mem_append.mp q with q | q
          · exact hjl j (List.mem_append.mp hj) q
          · exact jcd j q j hj rfl
        have n5 : RN ky S4 b (k.1, n_rk k, n_tg k, n_ld c, n_ls k ++ n_ls c) (tr_no (tn c' lc' rc')) (tr_no o) := by
          have : tr_no (tn c' lc' rc') = nI c.1 := by show nI c'.1 = _; rw [g1.1]
          rw [this]
          exact n2.congr (fun w' hw' => u4'.node hka k0 hw') (fun t ht => u4'.item (fun q => hjlk t q ht) hs3)
        have cb4 : NR ky S4 b o := u4'.nr hs3 cb2 (fun j hj q => ndis j q j hj rfl) (fun j hj q => jdis2 j (List.mem_append_right _ q) j hj rfl)
        have hid5 : (tr_ids (tn (k.1, n_rk k, n_tg k, n_ld c, n_ls k ++ n_ls c) (tn c' lc' rc') o)).Nodup := by
          refine List.nodup_cons.mpr ⟨fun q => nk ?_, List.nodup_append.mpr ⟨g3, nb, fun x hx y hy => ndis x (g2 x hx) y hy⟩⟩
          rcases List.mem_append.mp q with q | q
          · exact List.mem_append_left _ (g2 _ q)
          · exact List.mem_append_right _ q
        have hpm : (tr_its (tn (k.1, n_rk k, n_tg k, n_ld c, n_ls k ++ n_ls c) (tn c' lc' rc') o)).Perm (n_ls k ++ (tr_its (.inner z c u lc rc) ++ tr_its o)) := by
          show (n_ls k ++ n_ls c ++ (tr_its (tn c' lc' rc') ++ tr_its o)).Perm _
          have : n_ls k ++ (tr_its (.inner z c u lc rc) ++ tr_its o) = n_ls k ++ n_ls c ++ ((tr_its lc ++ tr_its rc) ++ tr_its o) := by simp [tr_its]
          rw [this]
          exact List.Perm.append_left _ (List.Perm.append_right _ g4)
        refine r_siftL hM hb n (D' + 1) post S4 (k.1, n_rk k, n_tg k, n_ld c, n_ls k ++ n_ls c) (tn c' lc' rc') o k' l' r' m2 e2 n5 ⟨u1, u2, u3⟩ cb4 ⟨⟨g9.1, g9.2, by rw [g1.2.2]; exact wc3⟩, g5, g6⟩ wb htg ⟨Or.inr (by show n_rk c' < n_rk k; rw [g1.2.1]; exact hrk), tb1, g7, tb2⟩ hid5 (hpm.nodup_iff.mpr hit2) (by rw [hpm.length_eq]; exact hlen2) hD (fun S' y1 y2 y3 y4 y5 => ?_)
        have mids : ∀ j, j ∈ tr_ids (tn (k.1, n_rk k, n_tg k, n_ld c, n_ls k ++ n_ls c) (tn c' lc' rc') o) → j ∈ tr_ids (tn k l r) := fun j hj => by
          rw [mid]
          rcases List.mem_cons.mp hj with q | q
          · exact Or.inl q
          · rcases List.mem_append.mp q with q | q
            · exact Or.inr (Or.inl (g2 _ q))
            · exact Or.inr (Or.inr q)
        refine w S' y1 y2 y3 ((frA.trans (u4.mono (fun j hj => (mid j).mpr (Or.inr (Or.inl hj))) (fun j hj => (mit j).mpr (Or.inr (Or.inl (List.mem_append_right _ (hsubI j hj))))))).trans (y4.mono mids (fun j hj => ?_))) (fun j hj hn => ?_)
        · rw [mit]
          have := hpm.mem_iff.mp hj
          rcases List.mem_append.mp this with q | q
          · exact Or.inl q
          · exact Or.inr (List.mem_append.mp q)
        · by_cases hj2 : j ∈ tr_ids (tn (k.1, n_rk k, n_tg k, n_ld c, n_ls k ++ n_ls c) (tn c' lc' rc') o)
          · exact y5 j hj2 hn
          · have hjc : j ∈ tr_ids (tn (c.1, n_rk c, n_tg c, n_ld c, []) lc rc) := by
              rw [mid] at hj
              rcases hj with y | y | y
              · exact absurd (by rw [y]; exact List.mem_cons_self) hj2
              · exact y
              · exact absurd (List.mem_cons_of_mem _ (List.mem_append_right _ y)) hj2
            have := u5 j hjc (fun q => hj2 (List.mem_cons_of_mem _ (List.mem_append_left _ q)))
            exact (y4.node (w := 0) hj2 (hs3 j hjc) (by decide)).trans this
end RSI
