/-! THE REFERENCE: a CHILD's LIST comes behind its parent's -/
theorem hdI_ne {l : List Nat} (h : l ≠ []) : ∃ t, t ∈ l ∧ hdI l = nI t := by
  cases l with
  | nil => exact absurd rfl h
  | cons t r => exact ⟨t, List.mem_cons_self, rfl⟩
theorem nI_neq0 {n : Nat} (h : n ≠ 0) (h2 : n < 2 ^ 31) : ¬ nI n = 0 := fun q => h ((nI_eq h2 (by decide)).mp q)
theorem ix5 (b t : Nat) : (nI b + 300) + nI t = nI (b + 300 + t) := by
  rw [show (300 : Int32) = nI 300 from rfl, nI_add, nI_add]
section RDR
variable {G : pm_G} {d : Nat} {h : pm_H} {S : Nat → Int32}
theorem r_pours {ky : Nat → Int32} {b : Nat} {k c : Nd} {x y xc yc : Int32} {Q : pm_H → Prop} (hM : Md h) (hb : b + 320 ≤ 4485) (hk : RN ky S b k x y) (hc : RN ky S b c xc yc) (hne : k.1 ≠ c.1) (hls : n_ls c ≠ []) (hnd : (n_ls k ++ n_ls c).Nodup) (hlen : (n_ls k ++ n_ls c).length ≤ 20)
    (w : ∀ S', RF S S' b [k.1, c.1] (n_ls k) → (∀ n j, j < 8 → j ≠ 3 → j ≠ 4 → j ≠ 5 → n < 24 → S' (b + 8 * n + j) = S (b + 8 * n + j)) → S' (b + 8 * k.1 + 3) = nI (n_ls k ++ n_ls c).length → S' (b + 8 * k.1 + 4) = hdI (n_ls k ++ n_ls c) → S' (b + 8 * k.1 + 5) = laI (n_ls k ++ n_ls c) → S' (b + 8 * c.1 + 3) = 0 → S' (b + 8 * c.1 + 4) = -1 → LC (fun t => S' (b + 300 + t)) (n_ls k ++ n_ls c) → Q (s8 h S')) :
    cv G (d + 2) m_X12_pours [.ref 446, .int (nI b), .int (nI c.1), .int (nI k.1)] (s8 h S) Q := by
  obtain ⟨k0, k1, k2, k3, k4, k5, k6, k7, k8, k9, k10⟩ := hk
  obtain ⟨c0, c1, c2, c3, c4, c5, c6, c7, c8, c9, c10⟩ := hc
  have hlen' := hlen
  rw [List.length_append] at hlen'
  have hc1 : 1 ≤ (n_ls c).length := List.length_pos_iff.mpr hls
  have hdj : ∀ t ∈ n_ls k, t ∉ n_ls c := fun t h1 h2 => (List.nodup_append.mp hnd).2.2 t h1 t h2 rfl
  refine cv_wp rfl (Nat.le_of_ble_eq_true rfl) rfl (x_X12_pours ⟨hM.1, r_nodeOf (w := 3) hM (by omega) ?_⟩)
  rw [c4, if_neg (nI_neq0 (by omega) (by omega))]
  refine ⟨hM.1, r_nodeOf (w := 3) hM (by omega) ?_⟩
  rw [k4]
  -- what comes after, from a row in which the chain is laid
  have rest : ∀ S1 : Nat → Int32, (∀ n j, j < 8 → n < 24 → (n = k.1 → j ≠ 4) → S1 (b + 8 * n + j) = S (b + 8 * n + j)) → S1 (b + 8 * k.1 + 4) = hdI (n_ls k ++ n_ls c) → LC (fun t => S1 (b + 300 + t)) (n_ls k ++ n_ls c) → RF S S1 b [k.1, c.1] (n_ls k) →
      Wp G (m_X12_pours, d + 1 + 1, 0, 0, fun v h1 => v = none ∧ Q h1) (0, 0) 63 [.ref 446, .int (nI b), .int (nI c.1), .int (nI k.1)] [] (s8 h S1) := by
    intro S1 g1 g2 g3 g4
    refine x_X12_pours_63 ⟨hM.1, r_nodeOf (w := 5) hM (by omega) ⟨hM.1, r_lays (w := 5) hM (by omega) ⟨hM.1, r_nodeOf (w := 3) hM (by omega) ⟨hM.1, r_nodeOf (w := 3) hM (by omega) ⟨hM.1, r_lays (w := 3) hM (by omega) ⟨hM.1, r_lays (w := 3) hM (by omega) ⟨hM.1, r_lays (w := 4) hM (by omega) ⟨hM.1, r_lays (w := 5) hM (by omega) ⟨rfl, ?_⟩⟩⟩⟩⟩⟩⟩⟩⟩
    rw [up1_ne S1 _ (show b + 8 * k.1 + 3 ≠ b + 8 * k.1 + 5 by omega), up1_ne S1 _ (show b + 8 * c.1 + 3 ≠ b + 8 * k.1 + 5 by omega), g1 k.1 3 (by decide) k0 (by omega), g1 c.1 3 (by decide) c0 (by omega), g1 c.1 5 (by decide) c0 (by omega), k4, c4, c6 hls, nI_add]
    have e8 : ∀ t, t < 20 → up1 (up1 (up1 (up1 (up1 S1 (b + 8 * k.1 + 5) (laI (n_ls c))) (b + 8 * k.1 + 3) (nI ((n_ls k).length + (n_ls c).length))) (b + 8 * c.1 + 3) 0) (b + 8 * c.1 + 4) (-1)) (b + 8 * c.1 + 5) (-1) (b + 300 + t) = S1 (b + 300 + t) := fun t ht => by
      rw [up1_ne _ _ (by omega), up1_ne _ _ (by omega), up1_ne _ _ (by omega), up1_ne _ _ (by omega), up1_ne _ _ (by omega)]
    refine w _ ?_ ?_ ?_ ?_ ?_ ?_ ?_ ?_
    · exact ((((g4.trans (RF.u (w := 5) (by simp) (by decide))).trans (RF.u (w := 3) (by simp) (by decide))).trans (RF.u (w := 3) (by simp) (by decide))).trans (RF.u (w := 4) (by simp) (by decide))).trans (RF.u (w := 5) (by simp) (by decide))
    · intro n j hj h3 h4 h5 hn
      rw [up1_ne _ _ (by omega), up1_ne _ _ (by omega), up1_ne _ _ (by omega), up1_ne _ _ (by omega), up1_ne _ _ (by omega)]
      exact g1 n j hj hn (fun _ => h4)
    · rw [up1_ne _ _ (by omega), up1_ne _ _ (by omega), up1_ne _ _ (by omega), up1_at, List.length_append]
    · rw [up1_ne _ _ (by omega), up1_ne _ _ (by omega), up1_ne _ _ (by omega), up1_ne _ _ (by omega), up1_ne _ _ (by omega)]
      exact g2
    · rw [up1_ne _ _ (by omega), up1_ne _ _ (by omega), up1_ne _ _ (by omega), up1_ne _ _ (by omega), up1_at, laI_app hls]
    · rw [up1_ne _ _ (by omega), up1_ne _ _ (by omega), up1_at]
    · rw [up1_ne _ _ (by omega), up1_at]
    · refine LC.congr (fun t ht => e8 t ?_) g3
      rcases List.mem_append.mp ht with q | q
      · exact k10 t q
      · exact c10 t q
  by_cases c1' : n_ls k = []
  · have : nI (n_ls k).length = 0 := by rw [c1']; rfl
    rw [if_pos this]
    refine ⟨hM.1, r_nodeOf (w := 4) hM (by omega) ⟨hM.1, r_lays (w := 4) hM (by omega) ?_⟩⟩
    rw [c5]
    refine rest _ (fun n j hj hn hj2 => up1_ne _ _ (by omega)) (by rw [up1_at, c1', List.nil_append]) ?_ (RF.u (w := 4) (by simp) (by decide))
    rw [c1', List.nil_append]
    exact LC.congr (fun t ht => up1_ne _ _ (by have := c10 t ht; omega)) c9
  · have hk1 : 1 ≤ (n_ls k).length := List.length_pos_iff.mpr c1'
    rw [if_neg (nI_neq0 (by omega) (by omega))]
    refine ⟨hM.1, r_nodeOf (w := 5) hM (by omega) ⟨hM.1, r_nodeOf (w := 4) hM (by omega) ?_⟩⟩
    obtain ⟨tl, htl, etl⟩ := laI_mem c1'
    have htl2 := k10 tl htl
    have hp : gp (s8 h S) 446 17 = 458 := hM.2.1
    rw [c5, k6 c1', etl, hp, ix5, cl_nI (by omega)]
    refine ⟨4485, hM.2.2, vp_nI (by omega) (by decide), ?_⟩
    rintro _ rfl
    rw [s8_si]
    refine rest _ (fun n j hj hn _ => up1_ne _ _ (by omega)) ?_ ?_ (RF.ut htl)
    · rw [up1_ne _ _ (by omega), k5, hdI_app c1']
    · refine LC.app c9 k9 (List.nodup_append.mp hnd).1 (fun t ht1 ht2 => ?_) (fun t ht1 ht2 => ?_) (fun t ht => ?_) k10
      · have : t = tl := by
          rw [etl] at ht1
          have := k10 t ht2
          exact ((nI_eq (by omega) (by omega)).mp ht1).symm
        rw [this]
        show up1 S (b + 300 + tl) (hdI (n_ls c)) (b + 300 + tl) = _
        rw [up1_at]
      · show up1 S (b + 300 + tl) (hdI (n_ls c)) (b + 300 + t) = S (b + 300 + t)
        refine up1_ne _ _ (fun q => ht2 ?_)
        rw [etl, show t = tl by omega]
      · show up1 S (b + 300 + tl) (hdI (n_ls c)) (b + 300 + t) = S (b + 300 + t)
        exact up1_ne _ _ (fun q => hdj tl htl (by rw [show tl = t by omega]; exact ht))
end RDR
