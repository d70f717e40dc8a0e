/-! HOW THE REFERENCE ANSWERS WITHOUT A TRIAL -/
theorem inB_ne {n j : Nat} {y : Int32} (h : inB n y = false) (hj : j < n) (hn : n < 2 ^ 31) : ¬ y = nI j := by
  rintro rfl
  unfold inB at h
  rw [nI_toInt (by omega), decide_eq_true (show (0 : Int) ≤ j by omega), decide_eq_true (show (j : Int) < n by omega)] at h
  cases h
theorem wf.lowr {hs : Hs} {w a r : Nat} (h : wf hs .leaf w) (hw : w ≤ 1000) (ha : a < 3) (hr : r < 24) (hl : isL (hs (24 * a + r)) = false) : r < 16 := by
  by_cases c : r < 16
  · exact c
  · have := h.high hw (show 24 * a + r < 72 by omega) (by omega)
    rw [hl] at this; cases this
theorem grk_sp {hs : Hs} {a : Nat} : ∀ n : Nat, (grk hs a n = -1 ∧ ∀ r, r < n → isL (hs (24 * a + r)) = true) ∨ ∃ r, r < n ∧ grk hs a n = nI r ∧ isL (hs (24 * a + r)) = false ∧ ∀ x, r < x → x < n → isL (hs (24 * a + x)) = true
  | 0 => Or.inl ⟨rfl, fun r hr => absurd hr (Nat.not_lt_zero r)⟩
  | n + 1 => by
    rw [grk]
    by_cases c : isL (hs (24 * a + n)) = true
    · rw [if_pos c]
      have up : ∀ x, x < n + 1 → x < n ∨ x = n := fun x hx => by omega
      rcases grk_sp (hs := hs) (a := a) n with ⟨z1, z2⟩ | ⟨r, z1, z2, z3, z4⟩
      · exact Or.inl ⟨z1, fun r hr => (up r hr).elim (z2 r) (fun e => by rw [e]; exact c)⟩
      · exact Or.inr ⟨r, by omega, z2, z3, fun x h1 h2 => (up x h2).elim (z4 x h1) (fun e => by rw [e]; exact c)⟩
    · rw [if_neg c]
      exact Or.inr ⟨n, by omega, rfl, by simpa using c, fun x h1 h2 => by omega⟩
theorem cnt_const {p : Nat → Bool} {r : Nat} : ∀ k, (∀ x, r ≤ x → x < r + k → p x = false) → cnt p (r + k) = cnt p r
  | 0, _ => rfl
  | k + 1, h => by
    show cnt p (r + k + 1) = _
    rw [cnt_skip (h (r + k) (by omega) (by omega))]
    exact cnt_const k (fun x h1 h2 => h x h1 (by omega))
theorem cnt_up {p : Nat → Bool} : ∀ {x r : Nat}, x ≤ r → cnt p x ≤ cnt p r
  | x, 0, h => by rw [show x = 0 by omega]; exact Nat.le_refl _
  | x, r + 1, h => by
    by_cases c : x = r + 1
    · rw [c]; exact Nat.le_refl _
    · have := cnt_up (p := p) (x := x) (r := r) (by omega)
      show cnt p x ≤ cnt p r + _
      omega
theorem tatF_at {hs : Hs} {a r : Nat} (hr : r < 24) (hl : isL (hs (24 * a + r)) = false) : ∀ (k x : Nat), x ≤ r → x + k = 24 → tatF hs a (nI (cnt (trP hs a) r)) k x = hs (24 * a + r)
  | 0, x, h1, h2 => by omega
  | k + 1, x, h1, h2 => by
    rw [tatF]
    have cr := cnt_le (trP hs a) r
    have cx := cnt_le (trP hs a) x
    by_cases e : x = r
    · rw [e, if_neg (by rw [hl]; decide), if_pos rfl]
    · by_cases c : isL (hs (24 * a + x)) = true
      · rw [if_pos c]; exact tatF_at hr hl k (x + 1) (by omega) (by omega)
      · rw [if_neg c]
        have s1 : cnt (trP hs a) (x + 1) = cnt (trP hs a) x + 1 := cnt_step (trP_f c)
        have s2 := cnt_up (p := trP hs a) (show x + 1 ≤ r by omega)
        rw [if_neg (fun q => by have := (nI_inj (by omega) (by omega)).mp q; omega)]
        exact tatF_at hr hl k (x + 1) (by omega) (by omega)
section QR1
variable {G : pm_G} {d : Nat} {h : pm_H} {s : Sta} {w : Nat}
theorem InvR.rr (i : InvR h s) : ∀ a r, a < 3 → r < 16 → NR (gi h 460) (gi h 458) 0 ((sA s).1 (24 * a + r)) ∧ gi h 458 (0 + 192 + 16 * a + r) = tr_no ((sA s).1 (24 * a + r)) := i.ra.1.1
theorem q_treeAt {x y : Int32} {Q : Int32 → pm_H → Prop} (i : InvR h s) (ok : okSta s w) (hw : w ≤ 1000) (k0 : inB (pHn (sP s)) x = false → Q (-1) h) (k1 : inB (pHn (sP s)) x = true → Q (tr_no (tatF (sA s).1 (ix x) y 24 0)) h) : ci G (d + 3) m_X12_treeAt [.ref 446, .int x, .int y] h Q := by
  have n3 := ok.n3
  rcases inB_or (n := pHn (sP s)) x (by omega) with c | ⟨a, ha, rfl, c, cx⟩
  · refine ci_wp rfl (Nat.le_of_ble_eq_true rfl) rfl (x_X12_treeAt (x_X12_treeAt_5 ?_))
    rw [if_neg (show ¬ (16 : Int32) ≤ 0 by decide)]
    refine ⟨i.la.md.1, q_isHeap (d := d) i ok.pl ?_⟩
    rw [c, if_pos b0f]; exact ⟨_, rfl, k0 c⟩
  · have k1 := k1 c
    rw [cx] at k1
    have t := r_treeAt (G := G) (d := d) (F := gi h 456) (P := gi h 457) (S := gi h 458) (Q := Q) (i := y) i.la.mk i.hn.1 ha n3.1 hw ok.a.wf (fun r hr => i.rr a r (by omega) hr) (by rw [nf]; exact k1)
    rwa [nf] at t
theorem q_treesIn {a : Nat} {Q : Int32 → pm_H → Prop} (i : InvR h s) (ok : okSta s w) (hw : w ≤ 1000) (ha : a < 3) (k : Q (nI (cnt (trP (sA s).1 a) 24)) h) : ci G (d + 2) m_X12_treesIn [.ref 446, .int (nI a)] h Q := by
  have t := r_treesIn (G := G) (d := d) (S := gi h 458) (Q := Q) i.la.md ha hw ok.a.wf (fun r hr => i.rr a r ha hr) (by rw [s8_self]; exact k)
  rwa [s8_self] at t
theorem q_raisedIn {x : Int32} {Q : Int32 → pm_H → Prop} (i : InvR h s) (ok : okSta s w) (hw : w ≤ 1000) (k : Q (nI (cnt (fun t => inH (sA s).2.1 x t && rsd (ltP (sP s)) (sA s).1 t) 20)) h) : ci G (d + 5) m_X12_raisedIn [.ref 446, .int 0, .int x] h Q := by
  have t := r_raisedIn (G := G) (d := d) (F := gi h 456) (P := gi h 457) (S := gi h 458) (Q := Q) (b := 0) (x := x) (A := sA s) i.la.mk i.hn.2.2.1 ok.n3.2.2 (by decide) ok.a.1 hw i.ra (fun t h1 h2 => (ok.a.out h1 h2).1) (by rw [nf, okN_cnt ok.a i.ky.agr.1]; exact k)
  rwa [nf] at t
theorem q_itemsIn {a : Nat} {Q : Int32 → pm_H → Prop} (i : InvR h s) (ok : okSta s w) (hw : w ≤ 1000) (ha : a < 3) (k : Q (hcount (sA s).2.1 a) h) : ci G (d + 20) m_X12_itemsIn [.ref 446, .int 0, .int (nI a)] h Q := by
  have e := hcount_len (T := .leaf) ok.a.wf hw ha (hp := (sA s).2.1) (fun t ht => by
    rw [ok.a.1.2.2 t a ht ha, hits_mem]; simp [tr_its])
  have t := r_itemsIn (G := G) (d := d) (S := gi h 458) (Q := Q) (b := 0) (T := .leaf) i.la.md (by decide) ha hw ok.a.wf (fun r hr => i.rr a r ha hr) (by rw [s8_self]; rw [e] at k; exact k)
  rwa [s8_self] at t
theorem q_onFloor {Q : Int32 → pm_H → Prop} (i : InvR h s) (ok : okSta s w) (k : Q (flo (sA s) (pN (sP s))) h) : ci G (d + 2) m_X12_onFloor [.ref 446, .int 0] h Q := by
  have t := r_onFloor (G := G) (d := d) (F := gi h 456) (P := gi h 457) (S := gi h 458) (Q := Q) (b := 0) i.la.mk i.hn.2.2.1 ok.n3.2.2 (by decide) (fun t ht => ⟨(i.ra.2 t ht).1, (i.ra.2 t ht).2.1⟩) ok.a.1.2.1 ok.a.2.2.2.1 (by rw [nf]; exact k)
  rwa [nf] at t
theorem q_isRaised {t : Nat} {Q : Int32 → pm_H → Prop} (i : InvR h s) (ok : okSta s w) (hw : w ≤ 1000) (ht : t < 20) (k : Q (b2i (rsd (ltP (sP s)) (sA s).1 t)) h) : ci G (d + 4) m_X12_isRaised [.ref 446, .int 0, .int (nI t)] h Q := by
  have t := r_isRaised (G := G) (d := d) (F := gi h 456) (P := gi h 457) (S := gi h 458) (Q := Q) (b := 0) (t := t) i.la.mk (by decide) ok.a.wf hw i.ra.1 ht (by rw [nf, okN_rsd ok.a i.ky.agr.1]; exact k)
  rwa [nf] at t
theorem q_item {x y : Int32} {Q : Int32 → pm_H → Prop} (i : InvR h s) (ok : okSta s w) (hw : w ≤ 1000) (k : ∀ h', InvR h' s → FrB h h' → Q (aItem s x y) h') : ci G (d + 5) m_X12_item [.ref 446, .int x, .int y] h Q := by
  have n3 := ok.n3
  refine ci_wp rfl (Nat.le_of_ble_eq_true rfl) rfl (x_X12_item ⟨i.la.md.1, ?_⟩)
  rintro h1 e1
  have i1 : InvR h1 s := by rw [e1]; exact i.th
  have f1 : FrB h h1 := by rw [e1]; exact FrB.si (by decide)
  have k := k h1 i1 f1
  clear e1
  unfold aItem at k
  refine q_isItem (d := d + 2) i1 ok.pl ?_
  rcases inB_or (n := pN (sP s)) x (by omega) with c | ⟨a, ha, rfl, c, cx⟩
  · rw [c] at k ⊢; rw [if_neg (by decide)] at k; rw [if_pos b0f]; exact ⟨_, rfl, k⟩
  · rw [c] at k ⊢; rw [if_pos rfl, cx] at k; rw [if_neg b1t]
    have a20 : a < 20 := by omega
    obtain ⟨v1, v2, v3⟩ := i1.ra.2 a a20
    rw [Nat.zero_add] at v1 v2 v3
    refine q_within (d := d + 3) (n := 4) (by decide) ?_
    rcases inB_or (n := 4 + 1) y (by decide) with c5 | ⟨b, hb, rfl, c5, cy⟩
    · rw [c5, if_pos b0f]
      rw [if_neg (show ¬ y = 0 from inB_ne c5 (j := 0) (by decide) (by decide)), if_neg (show ¬ y = 1 from inB_ne c5 (j := 1) (by decide) (by decide)), if_neg (show ¬ y = 2 from inB_ne c5 (j := 2) (by decide) (by decide)), if_neg (show ¬ y = 3 from inB_ne c5 (j := 3) (by decide) (by decide)), if_neg (show ¬ y = 4 from inB_ne c5 (j := 4) (by decide) (by decide))] at k
      exact ⟨_, rfl, k⟩
    · rw [c5, if_neg b1t, i1.la.md.2.1]
      by_cases c0 : nI b = 0
      · rw [if_pos c0] at k ⊢
        refine ⟨i1.la.md.1, q_itemOf (d := d + 3) (v := 0) i1 (by omega) ?_⟩
        have v0 : gi h1 452 (7 + 4 * a) = kdP (sP s) a := by have := (i1.pl.2.2.2.2.2.2.2.2.1 a ha).1; rw [Nat.zero_add] at this; exact this
        rw [show 7 + 4 * a + 0 = 7 + 4 * a from rfl, v0]
        exact ⟨_, rfl, k⟩
      · rw [if_neg c0] at k ⊢
        by_cases c1 : nI b = 1
        · rw [if_pos c1] at k ⊢
          rw [show (240 : Int32) = nI 240 from rfl, nI_add, cl_nI (show 240 + a < 2 ^ 31 by omega), v1]
          exact ⟨i1.la.md.1, 4485, i1.la.md.2.2, vp_nI (by omega) (by decide), _, rfl, k⟩
        · rw [if_neg c1] at k ⊢
          by_cases c2 : nI b = 2
          · rw [if_pos c2] at k ⊢
            rw [show (260 : Int32) = nI 260 from rfl, nI_add, cl_nI (show 260 + a < 2 ^ 31 by omega), v2]
            exact ⟨i1.la.md.1, 4485, i1.la.md.2.2, vp_nI (by omega) (by decide), _, rfl, k⟩
          · rw [if_neg c2] at k ⊢
            by_cases c3 : nI b = 3
            · rw [if_pos c3] at k ⊢
              rw [show (280 : Int32) = nI 280 from rfl, nI_add, cl_nI (show 280 + a < 2 ^ 31 by omega), v3]
              exact ⟨i1.la.md.1, 4485, i1.la.md.2.2, vp_nI (by omega) (by decide), _, rfl, k⟩
            · rw [if_neg c3] at k ⊢
              have b4 : b = 4 := by
                have e0 : b ≠ 0 := fun q => c0 (by rw [q]; rfl)
                have e1 : b ≠ 1 := fun q => c1 (by rw [q]; rfl)
                have e2 : b ≠ 2 := fun q => c2 (by rw [q]; rfl)
                have e3 : b ≠ 3 := fun q => c3 (by rw [q]; rfl)
                omega
              rw [b4, if_pos (show nI 4 = 4 from rfl)] at k
              refine ⟨i1.la.md.1, q_isRaised (d := d) i1 ok hw a20 ?_⟩
              cases e : rsd (ltP (sP s)) (sA s).1 a with
              | false => rw [e] at k; rw [if_pos b0f]; exact ⟨_, rfl, k⟩
              | true => rw [e] at k; rw [if_neg b1t]; exact ⟨_, rfl, k⟩
theorem q_heap {x y : Int32} {Q : Int32 → pm_H → Prop} (i : InvR h s) (ok : okSta s w) (hw : w ≤ 1000) (k : ∀ h', InvR h' s → FrB h h' → Q (aHeap s x y) h') : ci G (d + 21) m_X12_heap [.ref 446, .int x, .int y] h Q := by
  have n3 := ok.n3
  refine ci_wp rfl (Nat.le_of_ble_eq_true rfl) rfl (x_X12_heap ⟨i.la.md.1, ?_⟩)
  rintro h1 e1
  have i1 : InvR h1 s := by rw [e1]; exact i.th
  have f1 : FrB h h1 := by rw [e1]; exact FrB.si (by decide)
  have k := k h1 i1 f1
  clear e1
  unfold aHeap at k
  refine q_isHeap (d := d + 18) i1 ok.pl ?_
  rcases inB_or (n := pHn (sP s)) x (by omega) with c | ⟨a, ha, rfl, c, cx⟩
  · rw [c] at k ⊢; rw [if_neg (by decide)] at k; rw [if_pos b0f]; exact ⟨_, rfl, k⟩
  · rw [c] at k ⊢; rw [if_pos rfl, cx] at k; rw [if_neg b1t]
    have a3 : a < 3 := by omega
    refine q_within (d := d + 19) (n := 3) (by decide) ?_
    rcases inB_or (n := 3 + 1) y (by decide) with c5 | ⟨b, hb, rfl, c5, cy⟩
    · rw [c5, if_pos b0f]
      rw [if_neg (show ¬ y = 0 from inB_ne c5 (j := 0) (by decide) (by decide)), if_neg (show ¬ y = 1 from inB_ne c5 (j := 1) (by decide) (by decide)), if_neg (show ¬ y = 2 from inB_ne c5 (j := 2) (by decide) (by decide)), if_neg (show ¬ y = 3 from inB_ne c5 (j := 3) (by decide) (by decide))] at k
      exact ⟨_, rfl, k⟩
    · rw [c5, if_neg b1t]
      have b4 : b = 0 ∨ b = 1 ∨ b = 2 ∨ b = 3 := by omega
      rcases b4 with b4 | b4 | b4 | b4 <;> subst b4
      · rw [if_pos (show nI 0 = 0 from rfl)] at k
        rw [if_neg (show ¬ (3 : Int32) ≤ nI 0 by decide), if_pos (show nI 0 = 0 from rfl)]
        exact ⟨i1.la.md.1, q_itemsIn (d := d) i1 ok hw a3 ⟨_, rfl, k⟩⟩
      · rw [if_neg (show ¬ nI 1 = 0 by decide), if_pos (show nI 1 = 1 from rfl)] at k
        rw [if_neg (show ¬ (3 : Int32) ≤ nI 1 by decide), if_neg (show ¬ nI 1 = 0 by decide), if_pos (show nI 1 = 1 from rfl)]
        exact ⟨i1.la.md.1, q_treesIn (d := d + 18) i1 ok hw a3 ⟨_, rfl, k⟩⟩
      · rw [if_neg (show ¬ nI 2 = 0 by decide), if_neg (show ¬ nI 2 = 1 by decide), if_pos (show nI 2 = 2 from rfl)] at k
        rw [if_neg (show ¬ (3 : Int32) ≤ nI 2 by decide), if_neg (show ¬ nI 2 = 0 by decide), if_neg (show ¬ nI 2 = 1 by decide)]
        refine ⟨i1.la.md.1, q_raisedIn (d := d + 15) i1 ok hw ?_⟩
        have e : (fun t => inH (sA s).2.1 (nI a) t && rsd (ltP (sP s)) (sA s).1 t) = (fun t => decide ((sA s).2.1 t = nI a) && rsd (ltP (sP s)) (sA s).1 t) := by
          funext t
          unfold inH
          rw [decide_eq_false (nI_pos (show a < 2 ^ 31 by omega)), Bool.false_or]
        rw [e]
        exact ⟨_, rfl, k⟩
      · rw [if_neg (show ¬ nI 3 = 0 by decide), if_neg (show ¬ nI 3 = 1 by decide), if_neg (show ¬ nI 3 = 2 by decide), if_pos (show nI 3 = 3 from rfl)] at k
        rw [if_pos (show (3 : Int32) ≤ nI 3 by decide)]
        refine ⟨i1.la.md.1, q_treesIn (d := d + 18) i1 ok hw a3 ⟨i1.la.md.1, q_treeAt (d := d + 17) i1 ok hw (fun z => ?_) (fun _ => ?_)⟩⟩
        · rw [z] at c; cases c
        · rw [cx]
          rcases grk_sp (hs := (sA s).1) (a := a) 24 with ⟨z1, z2⟩ | ⟨r, z1, z2, z3, z4⟩
          · rw [z1] at k
            rw [tatF_leaf (fun x _ hx => z2 x (by omega)), if_neg (show ¬ (0 : Int32) ≤ tr_no .leaf by decide)]
            exact ⟨_, rfl, k⟩
          · rw [z2] at k
            have c1 : cnt (trP (sA s).1 a) 24 = cnt (trP (sA s).1 a) r + 1 := by
              have s1 : cnt (trP (sA s).1 a) (r + 1) = cnt (trP (sA s).1 a) r + 1 := cnt_step (trP_f (by rw [z3]; decide))
              have s2 := cnt_const (p := trP (sA s).1 a) (r := r + 1) (23 - r) (fun x h1 h2 => trP_t (z4 x (by omega) (by omega)))
              rw [show r + 1 + (23 - r) = 24 by omega] at s2
              rw [s2, s1]
            rw [c1, nI_m1, tatF_at z1 z3 24 0 (Nat.zero_le _) rfl]
            have r16 := ok.a.wf.lowr hw a3 z1 z3
            have hN := (i1.rr a r a3 r16).1
            have hrk := (ok.a.wf.2.2.2.2.1 (24 * a + r) (by omega)).2.2 z3
            obtain ⟨z', kk, u, l, rr, eT⟩ := tr_inner z3
            rw [eT] at hN hrk ⊢
            obtain ⟨k24, m0, -⟩ := hN.1
            have hrk : n_rk kk = (24 * a + r) % 24 := hrk
            rw [show tr_no (.inner z' kk u l rr) = nI kk.1 from rfl, if_pos (nI_0le (by omega))]
            refine ⟨i1.la.md.1, q_nodeOf (d := d + 19) (v := 0) i1 (by omega) ?_⟩
            rw [Nat.zero_add] at m0
            rw [show 8 * kk.1 + 0 = 8 * kk.1 from rfl, m0, hrk, show (24 * a + r) % 24 = r by omega]
            exact ⟨_, rfl, k⟩
theorem q_tree {x y z : Int32} {Q : Int32 → pm_H → Prop} (i : InvR h s) (ok : okSta s w) (hw : w ≤ 1000) (k : ∀ h', InvR h' s → FrB h h' → Q (aTree s x y z) h') : ci G (d + 20) m_X12_tree [.ref 446, .int x, .int y, .int z] h Q := by
  have n3 := ok.n3
  refine ci_wp rfl (Nat.le_of_ble_eq_true rfl) rfl (x_X12_tree ⟨i.la.md.1, ?_⟩)
  rintro h1 e1
  have i1 : InvR h1 s := by rw [e1]; exact i.th
  have f1 : FrB h h1 := by rw [e1]; exact FrB.si (by decide)
  have k := k h1 i1 f1
  clear e1
  unfold aTree at k
  refine q_treeAt (d := d + 16) i1 ok hw (fun c => ?_) (fun c => ?_)
  · rw [if_neg (show ¬ (0 : Int32) ≤ -1 by decide)]
    rw [c, if_neg (by decide)] at k
    exact ⟨_, rfl, k⟩
  · rw [if_pos c] at k
    rcases inB_or (n := pHn (sP s)) x (by omega) with c' | ⟨a, ha, rfl, c', cx⟩
    · rw [c] at c'; cases c'
    rw [cx] at k ⊢
    rcases tatF_sm (hs := (sA s).1) (a := a) (y := y) 24 0 with e | ⟨r, r1, r2, e, el⟩
    · rw [e] at k ⊢
      rw [if_neg (show ¬ (0 : Int32) ≤ tr_no .leaf by decide)]; exact ⟨_, rfl, k⟩
    · have hq : 24 * a + r < 72 := by omega
      have r16 := ok.a.wf.lowr hw (by omega) (by omega) el
      have hN := (i1.rr a r (by omega) r16).1
      have hTW := ok.a.wf.2.2.2.2.1 _ hq
      have hrk := hTW.2.2 el
      have hnu : ∀ {Q' : Int32 → pm_H → Prop}, Q' (nI (tr_ids ((sA s).1 (24 * a + r))).length) h1 → ci G (d + 17 + 2) m_X12_nodesUnder [.ref 446, .int (nI 0), .int (tr_no ((sA s).1 (24 * a + r)))] h1 Q' := fun k' => by
        have t := r_nodesUnder (G := G) (S := gi h1 458) (b := 0) i1.la.md (by decide) ((sA s).1 (24 * a + r)) (d + 17) _ hN hTW.2.1 (Or.inr (by omega)) (by rw [s8_self]; exact k')
        rwa [s8_self] at t
      have hld : ∀ k ∈ tr_nds ((sA s).1 (24 * a + r)), n_ld k < pN (sP s) := fun k hk => ok.a.lb _ hq k hk
      rw [e] at k ⊢
      obtain ⟨z', kk, u, l, rr, eT⟩ := tr_inner el
      rw [eT] at k hN hTW hld hnu ⊢
      obtain ⟨nn, -, -⟩ := hTW.1.1
      obtain ⟨k24, m0, m1, m2, m3, m4, -⟩ := hN.1
      rw [Nat.zero_add] at m0 m1 m2 m3
      have lN := hld kk List.mem_cons_self
      rw [show tr_no (.inner z' kk u l rr) = nI kk.1 from rfl] at hnu ⊢
      rw [if_pos (nI_0le (by omega))]
      rw [aTreeT] at k
      by_cases c0 : z = 0
      · rw [if_pos c0] at k ⊢
        refine ⟨i1.la.md.1, q_nodeOf (d := d + 18) (v := 0) i1 (by omega) ?_⟩
        rw [show 8 * kk.1 + 0 = 8 * kk.1 from rfl, m0]; exact ⟨_, rfl, k⟩
      · rw [if_neg c0] at k ⊢
        by_cases c1 : z = 1
        · rw [if_pos c1] at k ⊢
          refine ⟨i1.la.md.1, q_nodeOf (d := d + 18) (v := 1) i1 (by omega) ?_⟩
          rw [m1]; exact ⟨_, rfl, k⟩
        · rw [if_neg c1] at k ⊢
          by_cases c2 : z = 2
          · rw [if_pos c2] at k ⊢
            refine ⟨i1.la.md.1, q_nodeOf (d := d + 18) (v := 3) i1 (by omega) ?_⟩
            rw [m3]; exact ⟨_, rfl, k⟩
          · rw [if_neg c2] at k ⊢
            by_cases c3 : z = 3
            · rw [if_pos c3] at k ⊢
              refine ⟨i1.la.md.1, q_nodeOf (d := d + 18) (v := 2) i1 (by omega) ?_⟩
              rw [m2 nn, i1.ky _ lN]; exact ⟨_, rfl, k⟩
            · rw [if_neg c3] at k ⊢
              by_cases c4 : z = 4
              · rw [if_pos c4] at k ⊢
                exact ⟨i1.la.md.1, hnu ⟨_, rfl, k⟩⟩
              · rw [if_neg c4] at k ⊢; exact ⟨_, rfl, k⟩
theorem q_lsLoop {post : pm_PT} {n : Nat} (hM : Md h) (hn : n < 2 ^ 30) : ∀ (j m : Nat) (l : List Nat), LC (fun u => gi h 458 (0 + 300 + u)) l → (∀ t ∈ l, t < 20) → m + j = n → j < l.length → post (some (.int (nI (l.getD j 0)))) h → Wp G (m_X12_listed, d + 1, 0, 0, post) (0, 0) 51 [.ref 446, .null, .null, .int (nI n), .null, .int (hdI l), .int (nI m)] [] h
  | j, m, [], _, _, _, hj, _ => absurd hj (Nat.not_lt_zero _)
  | 0, m, t :: r, _, _, hm, _, k => by
    refine x_X12_listed_51 ?_
    rw [if_pos (show nI n ≤ nI m by rw [show n = m by omega]; exact Int32.le_refl _)]
    exact k
  | j + 1, m, t :: r, hl, ht, hm, hj, k => by
    have t20 := ht t List.mem_cons_self
    refine x_X12_listed_51 ?_
    rw [if_neg (show ¬ nI n ≤ nI m from nI_nlen (by omega) (by omega)), hM.2.1, show hdI (t :: r) = nI t from rfl, show (300 : Int32) = nI 300 from rfl, nI_add, cl_nI (show 300 + t < 2 ^ 31 by omega)]
    refine ⟨hM.1, 4485, hM.2.2, vp_nI (by omega) (by decide), ?_⟩
    have e : gi h 458 (300 + t) = hdI r := by have := hl.1; rw [Nat.zero_add] at this; exact this
    rw [e, nI_1]
    exact q_lsLoop hM hn j (m + 1) r hl.2 (fun u hu => ht u (List.mem_cons_of_mem _ hu)) (by omega) (by simpa using hj) k
theorem q_listed {x y z : Int32} {Q : Int32 → pm_H → Prop} (i : InvR h s) (ok : okSta s w) (hw : w ≤ 1000) (k : ∀ h', InvR h' s → FrB h h' → Q (aListed s x y z) h') : ci G (d + 20) m_X12_listed [.ref 446, .int x, .int y, .int z] h Q := by
  have n3 := ok.n3
  refine ci_wp rfl (Nat.le_of_ble_eq_true rfl) rfl (x_X12_listed ⟨i.la.md.1, ?_⟩)
  rintro h1 e1
  have i1 : InvR h1 s := by rw [e1]; exact i.th
  have f1 : FrB h h1 := by rw [e1]; exact FrB.si (by decide)
  have k := k h1 i1 f1
  clear e1
  unfold aListed at k
  refine q_treeAt (d := d + 16) i1 ok hw (fun c => ?_) (fun c => ?_)
  · rw [if_pos (show (-1 : Int32) < 0 by decide)]
    rw [c, if_neg (by decide)] at k
    exact ⟨_, rfl, k⟩
  · rw [if_pos c] at k
    rcases inB_or (n := pHn (sP s)) x (by omega) with c' | ⟨a, ha, rfl, c', cx⟩
    · rw [c] at c'; cases c'
    rw [cx] at k ⊢
    rcases tatF_sm (hs := (sA s).1) (a := a) (y := y) 24 0 with e | ⟨r, r1, r2, e, el⟩
    · rw [e] at k ⊢
      rw [if_pos (show tr_no .leaf < 0 by decide)]; exact ⟨_, rfl, k⟩
    · have hq : 24 * a + r < 72 := by omega
      have r16 := ok.a.wf.lowr hw (by omega) (by omega) el
      have hN := (i1.rr a r (by omega) r16).1
      have hl : ∀ k ∈ tr_nds ((sA s).1 (24 * a + r)), (n_ls k).length ≤ 20 := fun k hk => len_its ok.a hq hk
      rw [e] at k ⊢
      obtain ⟨z', kk, u, l, rr, eT⟩ := tr_inner el
      rw [eT] at k hN hl ⊢
      obtain ⟨k24, m0, m1, m2, m3, m4, m5, m6, m7, m8, m9⟩ := hN.1
      rw [Nat.zero_add] at m3 m4
      have l20 := hl kk List.mem_cons_self
      rw [show tr_no (.inner z' kk u l rr) = nI kk.1 from rfl, if_neg (nI_pos (by omega))]
      refine ⟨i1.la.md.1, q_nodeOf (d := d + 18) (v := 3) i1 (by omega) ?_⟩
      rw [m3]
      refine q_withinN (d := d + 18) (by omega) ?_
      have k : Q (lsAt (n_ls kk) z) h1 := k
      unfold lsAt at k
      rcases inB_or (n := (n_ls kk).length) z (by omega) with c3 | ⟨b, hb, rfl, c3, cz⟩
      · rw [c3, if_pos b0f]
        rw [if_neg (fun q => by unfold inB at c3; rw [decide_eq_true q.1, decide_eq_true q.2] at c3; cases c3)] at k
        exact ⟨_, rfl, k⟩
      · rw [c3, if_neg b1t]
        rw [nI_toInt (by omega), if_pos ⟨by omega, by omega⟩] at k
        refine ⟨i1.la.md.1, q_nodeOf (d := d + 18) (v := 4) i1 (by omega) ?_⟩
        rw [m4]
        exact q_lsLoop (d := d + 19) i1.la.md (by omega) b 0 (n_ls kk) m8 m9 (Nat.zero_add _) hb ⟨_, rfl, k⟩
theorem q_shelf {x : Int32} {Q : Int32 → pm_H → Prop} (i : InvR h s) (ok : okSta s w) (k : ∀ h', InvR h' s → FrB h h' → Q (aShelf s x) h') : ci G (d + 20) m_X12_shelf [.ref 446, .int x] h Q := by
  have n3 := ok.n3
  refine ci_wp rfl (Nat.le_of_ble_eq_true rfl) rfl (x_X12_shelf ⟨i.la.md.1, ?_⟩)
  rintro h1 e1
  have i1 : InvR h1 s := by rw [e1]; exact i.th
  have f1 : FrB h h1 := by rw [e1]; exact FrB.si (by decide)
  have g1 : h1.1 = h.1 := by rw [e1]
  have k := k h1 i1 f1
  clear e1
  unfold aShelf at k
  have mk := i1.la.mk
  rw [mk.2.2.2.1, ← g1]
  refine ⟨180, mk.2.2.2.2, vp_nI (k := 1) (by decide) (by decide), ?_⟩
  rw [show (1 : Int32).toNatClampNeg = 1 from rfl, i1.hn.2.1]
  refine q_withinN (d := d + 18) (by omega) ?_
  rcases inB_or (n := pSs (sP s)) x (by omega) with c | ⟨a, ha, rfl, c, cx⟩
  · rw [c] at k ⊢; rw [if_neg (by decide)] at k; rw [if_pos b0f]; exact ⟨_, rfl, k⟩
  · rw [c] at k ⊢; rw [if_pos rfl, cx] at k; rw [if_neg b1t]
    have t := r_shelvedOn (G := G) (d := d + 17) (F := gi h1 456) (P := gi h1 457) (S := gi h1 458) (Q := fun v h2 => ∃ r, (some (Value.int v) : Option Value) = some (.int r) ∧ Q r h2) (b := 0) (s := a) i1.la.mk i1.hn.2.2.1 ok.n3.2.2 (by decide) (fun t ht => (i1.ra.2 t ht).2.1) (fun t h1 h2 => (ok.a.out h1 h2).2) (by omega) (by rw [nf]; exact ⟨_, rfl, k⟩)
    rw [nf] at t
    exact ⟨i1.la.md.1, t⟩
theorem q_count {x : Int32} {Q : Int32 → pm_H → Prop} (i : InvR h s) (ok : okSta s w) (hw : w ≤ 1000) (k : ∀ h', InvR h' s → FrB h h' → Q (aCount s x) h') : ci G (d + 20) m_X12_count [.ref 446, .int x] h Q := by
  have n3 := ok.n3
  refine ci_wp rfl (Nat.le_of_ble_eq_true rfl) rfl (x_X12_count ⟨i.la.md.1, ?_⟩)
  rintro h1 e1
  have i1 : InvR h1 s := by rw [e1]; exact i.th
  have f1 : FrB h h1 := by rw [e1]; exact FrB.si (by decide)
  have g1 : h1.1 = h.1 := by rw [e1]
  have k := k h1 i1 f1
  clear e1
  unfold aCount at k
  have mk := i1.la.mk
  have ln := i1.la.ln
  rw [mk.2.2.2.1, ← g1, i1.la.md.2.1, ln.1, i1.shut, i1.past.1, i1.tx.2]
  rw [show (1 : Int32).toNatClampNeg = 1 from rfl, show (3 : Int32).toNatClampNeg = 3 from rfl, show (0 : Int32).toNatClampNeg = 0 from rfl, show (320 : Int32).toNatClampNeg = 320 from rfl, i1.hn.2.1, i1.hn.2.2.2, i1.wk.1, i1.see.1]
  by_cases c0 : x = 0
  · rw [if_pos c0] at k ⊢; exact q_heaps (d := d + 18) i1 ⟨_, rfl, k⟩
  rw [if_neg c0] at k ⊢
  by_cases c1 : x = 1
  · rw [if_pos c1] at k ⊢; exact ⟨180, mk.2.2.2.2, vp_nI (k := 1) (by decide) (by decide), _, rfl, k⟩
  rw [if_neg c1] at k ⊢
  by_cases c2 : x = 2
  · rw [if_pos c2] at k ⊢; exact q_items (d := d + 18) i1 ⟨_, rfl, k⟩
  rw [if_neg c2] at k ⊢
  by_cases c3 : x = 3
  · rw [if_pos c3] at k ⊢; exact ⟨180, mk.2.2.2.2, vp_nI (k := 3) (by decide) (by decide), _, rfl, k⟩
  rw [if_neg c3] at k ⊢
  by_cases c4 : x = 4
  · rw [if_pos c4] at k ⊢; exact q_onFloor (d := d + 17) i1 ok ⟨_, rfl, k⟩
  rw [if_neg c4] at k ⊢
  by_cases c5 : x = 5
  · rw [if_pos c5] at k ⊢
    refine q_raisedIn (d := d + 14) i1 ok hw ?_
    have e : (fun t => inH (sA s).2.1 (-1) t && rsd (ltP (sP s)) (sA s).1 t) = rsd (ltP (sP s)) (sA s).1 := by
      funext t
      unfold inH
      rw [decide_eq_true (show (-1 : Int32) < 0 by decide), Bool.true_or, Bool.true_and]
    rw [e]
    exact ⟨_, rfl, k⟩
  rw [if_neg c5] at k ⊢
  by_cases c6 : x = 6
  · rw [if_pos c6] at k ⊢; exact ⟨_, rfl, k⟩
  rw [if_neg c6] at k ⊢
  by_cases c7 : x = 7
  · rw [if_pos c7] at k ⊢; exact ⟨190, ln.2, vp_nI (k := 0) (by decide) (by decide), _, rfl, k⟩
  rw [if_neg c7] at k ⊢
  by_cases c8 : x = 8
  · rw [if_pos c8] at k ⊢; exact ⟨4485, i1.la.md.2.2, vp_nI (k := 320) (by decide) (by decide), _, rfl, k⟩
  rw [if_neg c8] at k ⊢
  by_cases c9 : x = 9
  · rw [if_pos c9] at k ⊢; exact ⟨_, rfl, k⟩
  rw [if_neg c9] at k ⊢
  by_cases c10 : x = 10
  · rw [if_pos c10] at k ⊢; exact ⟨_, rfl, k⟩
  rw [if_neg c10] at k ⊢; exact ⟨_, rfl, k⟩
theorem q_bits {x : Int32} {Q : Int32 → pm_H → Prop} (i : InvR h s) (ok : okSta s w) (k : ∀ h', InvR h' s → FrB h h' → Q (aBits s x) h') : ci G (d + 20) m_X12_bits [.ref 446, .int x] h Q := by
  have n3 := ok.n3
  refine ci_wp rfl (Nat.le_of_ble_eq_true rfl) rfl (x_X12_bits ⟨i.la.md.1, ?_⟩)
  rintro h1 e1
  have i1 : InvR h1 s := by rw [e1]; exact i.th
  have f1 : FrB h h1 := by rw [e1]; exact FrB.si (by decide)
  have k := k h1 i1 f1
  clear e1
  unfold aBits at k
  refine q_isItem (d := d + 17) i1 ok.pl ?_
  rcases inB_or (n := pN (sP s)) x (by omega) with c | ⟨a, ha, rfl, c, cx⟩
  · rw [c] at k ⊢; rw [if_neg (by decide)] at k; rw [if_pos b0f]; exact ⟨_, rfl, k⟩
  · rw [c] at k ⊢; rw [if_pos rfl, cx] at k; rw [if_neg b1t, i1.la.mk.2.1, cl_nI (show a < 2 ^ 31 by omega), i1.ky a ha]
    exact ⟨i1.la.md.1, 20, i1.la.mk.2.2.1, vp_nI (by omega) (by decide), _, rfl, k⟩
theorem q_bound {x : Int32} {Q : Int32 → pm_H → Prop} (i : InvR h s) (ok : okSta s w) (hw : w ≤ 1000) (k : ∀ h', InvR h' s → FrB h h' → Q (aBound s x) h') : ci G (d + 21) m_X12_bound [.ref 446, .int x] h Q := by
  have n3 := ok.n3
  refine ci_wp rfl (Nat.le_of_ble_eq_true rfl) rfl (x_X12_bound ⟨i.la.md.1, ?_⟩)
  rintro h1 e1
  have i1 : InvR h1 s := by rw [e1]; exact i.th
  have f1 : FrB h h1 := by rw [e1]; exact FrB.si (by decide)
  have k := k h1 i1 f1
  clear e1
  unfold aBound at k
  refine q_isHeap (d := d + 18) i1 ok.pl ?_
  rcases inB_or (n := pHn (sP s)) x (by omega) with c | ⟨a, ha, rfl, c, cx⟩
  · rw [c] at k ⊢; rw [if_neg (by decide)] at k; rw [if_pos b0f]; exact ⟨_, rfl, k⟩
  · rw [c] at k ⊢; rw [if_pos rfl, cx] at k; rw [if_neg b1t]
    have a3 : a < 3 := by omega
    refine ⟨i1.la.md.1, q_raisedIn (d := d + 15) i1 ok hw ?_⟩
    have e : (fun t => inH (sA s).2.1 (nI a) t && rsd (ltP (sP s)) (sA s).1 t) = (fun t => decide ((sA s).2.1 t = nI a) && rsd (ltP (sP s)) (sA s).1 t) := by
      funext t
      unfold inH
      rw [decide_eq_false (nI_pos (show a < 2 ^ 31 by omega)), Bool.false_or]
    rw [e]
    refine ⟨i1.la.md.1, q_itemsIn (d := d) i1 ok hw a3 ?_⟩
    have mk := i1.la.mk
    rw [mk.2.2.2.1, show (3 : Int32).toNatClampNeg = 3 from rfl, i1.hn.2.2.2]
    refine ⟨i1.la.md.1, 180, mk.2.2.2.2, vp_nI (k := 3) (by decide) (by decide), ?_⟩
    unfold rsI at k
    by_cases c0 : (hcount (sA s).2.1 a >>> (nI (pSh (sP s)) &&& 31)) < nI (cnt (fun t => decide ((sA s).2.1 t = nI a) && rsd (ltP (sP s)) (sA s).1 t) 20)
    · rw [if_pos c0] at k ⊢; exact ⟨_, rfl, k⟩
    · rw [if_neg c0] at k ⊢; exact ⟨_, rfl, k⟩
theorem selP_m1 {ah : Nat → Nat → Bool} {hp : Nat → Int32} {x y : Int32} (hy : y < 0) : fnd (selP ah hp x y) 20 = none := by
  cases e : fnd (selP ah hp x y) 20 with
  | none => rfl
  | some t =>
    obtain ⟨a, b⟩ := fnd_sm e
    unfold selP at b
    rw [Bool.and_eq_true] at b
    have q := of_decide_eq_true b.2
    have := cnt_le (fun u => decide (hp u = x) && ah u t) 20
    rw [← q] at hy
    exact absurd hy (nI_pos (by omega))
theorem q_selectOf {a : Nat} {y : Int32} {Q : Int32 → pm_H → Prop} (i : InvR h s) (ok : okSta s w) (ha : a < 3) (k : Q (oI (fnd (selP (ahP (sP s)) (sA s).2.1 (nI a) y) 20)) h) : ci G (d + 3) m_X12_selectOf [.ref 446, .int (nI a), .int y] h Q := by
  have t := r_selectOf (G := G) (d := d) (F := gi h 456) (P := gi h 457) (S := gi h 458) (Q := Q) (x := nI a) (i := y) (hp := (sA s).2.1) i.la.mk i.hn.2.2.1 ok.n3.2.2 (nI_nm1 (by omega)) (fun t ht => by have := (i.ra.2 t ht).1; rw [Nat.zero_add] at this; exact this) (fun t h1 h2 => (ok.a.out h1 h2).1) (by
    rw [nf, fnd_same (selP_agr i.ky.agr.2 (fun t h1 h2 => by rw [(ok.a.out h1 h2).1]; exact m1_nI (by omega)))]; exact k)
  rwa [nf] at t
theorem q_select {x y : Int32} {Q : Int32 → pm_H → Prop} (i : InvR h s) (ok : okSta s w) (k : ∀ h', InvR h' s → FrB h h' → Q (aSelect s x y) h') : ci G (d + 20) m_X12_select [.ref 446, .int x, .int y] h Q := by
  have n3 := ok.n3
  refine ci_wp rfl (Nat.le_of_ble_eq_true rfl) rfl (x_X12_select ⟨i.la.md.1, ?_⟩)
  rintro h1 e1
  have i1 : InvR h1 s := by rw [e1]; exact i.th
  have f1 : FrB h h1 := by rw [e1]; exact FrB.si (by decide)
  have k := k h1 i1 f1
  clear e1
  unfold aSelect at k
  refine q_isHeap (d := d + 17) i1 ok.pl ?_
  rcases inB_or (n := pHn (sP s)) x (by omega) with c | ⟨a, ha, rfl, c, cx⟩
  · rw [c] at k ⊢; rw [if_neg (by decide)] at k; rw [if_pos b0f]; exact ⟨_, rfl, k⟩
  · rw [c] at k ⊢; rw [if_pos rfl, cx] at k; rw [if_neg b1t]
    by_cases c0 : y < 0
    · rw [if_pos c0]
      rw [selP_m1 c0] at k
      exact ⟨_, rfl, k⟩
    · rw [if_neg c0]
      exact ⟨i1.la.md.1, q_selectOf (d := d + 16) i1 ok (by omega) ⟨_, rfl, k⟩⟩
theorem q_nodeWith {t : Nat} {Q : Int32 → pm_H → Prop} (i : InvR h s) (ok : okSta s w) (hw : w ≤ 1000) (ht : t < 20) (k0 : ndA (sA s).1 t = none → Q (-1) h) (k1 : ∀ k x y, ndA (sA s).1 t = some k → RN (gi h 460) (gi h 458) 0 k x y → Q (nI k.1) h) : ci G (d + 3) m_X12_nodeWith [.ref 446, .int 0, .int (nI t)] h Q := by
  have t := r_nodeWith (G := G) (d := d) (S := gi h 458) (Q := Q) (b := 0) (t := t) i.la.md (by decide) ok.a.wf hw i.ra.1 ht (fun q => by
    rw [s8_self]
    cases e : ndA (sA s).1 t with
    | none => exact k0 e
    | some kk => exact absurd (aits_nds.mpr ⟨kk, (ndA_some e).1, (ndA_some e).2⟩) q) (fun k x y a b c => by rw [s8_self]; exact k1 k x y (ndA_is ok.a.ndit a b) c)
  rwa [s8_self] at t
theorem q_depth {x : Int32} {Q : Int32 → pm_H → Prop} (i : InvR h s) (ok : okSta s w) (hw : w ≤ 1000) (k : ∀ h', InvR h' s → FrB h h' → Q (aDepth s x) h') : ci G (d + 20) m_X12_depth [.ref 446, .int x] h Q := by
  have n3 := ok.n3
  refine ci_wp rfl (Nat.le_of_ble_eq_true rfl) rfl (x_X12_depth ⟨i.la.md.1, ?_⟩)
  rintro h1 e1
  have i1 : InvR h1 s := by rw [e1]; exact i.th
  have f1 : FrB h h1 := by rw [e1]; exact FrB.si (by decide)
  have k := k h1 i1 f1
  clear e1
  unfold aDepth at k
  refine q_isItem (d := d + 17) i1 ok.pl ?_
  rcases inB_or (n := pN (sP s)) x (by omega) with c | ⟨t, ht, rfl, c, cx⟩
  · rw [c] at k ⊢; rw [if_neg (by decide)] at k; rw [if_pos b0f]; exact ⟨_, rfl, k⟩
  · rw [c] at k ⊢; rw [if_pos rfl, cx] at k; rw [if_neg b1t]
    have t20 : t < 20 := by omega
    refine ⟨i1.la.md.1, q_isIn (d := d + 18) i1 ok t20 ?_⟩
    by_cases c1 : (sA s).2.1 t = -1
    · rw [if_pos c1, if_pos rfl]
      cases e : ndA (sA s).1 t with
      | none => rw [e] at k; exact ⟨_, rfl, k⟩
      | some kk =>
        obtain ⟨a, ha, hh⟩ := ok.a.heaped (aits_nds.mpr ⟨kk, (ndA_some e).1, (ndA_some e).2⟩)
        rw [c1] at hh
        exact absurd hh (m1_nI (by omega))
    · rw [if_neg c1, if_neg (by decide)]
      refine ⟨i1.la.md.1, q_nodeWith (d := d + 16) i1 ok hw t20 (fun e => ?_) (fun kk x' y' e rn => ?_)⟩
      · exfalso
        rcases ok.a.1.2.1 t t20 with z | ⟨a, ha, z⟩
        · exact c1 z
        · obtain ⟨r, hr, hm⟩ := (ok.a.1.2.2 t a t20 ha).mp z
          exact ndA_none e (aits_mem.mpr ⟨24 * a + r, by omega, hm⟩)
      · rw [e] at k
        obtain ⟨e1, e2⟩ := ndA_some e
        obtain ⟨q, hq, hk⟩ := ands_mem.mp e1
        have hj : kk.1 ∈ tr_ids ((sA s).1 q) := by rw [tr_ids_nds]; exact List.mem_map_of_mem hk
        have hit : t ∈ tr_its ((sA s).1 q) := (tr_its_nds _ _).mpr ⟨kk, hk, e2⟩
        obtain ⟨m, em⟩ := tr_dp_some hj
        have k : Q (oI (tr_dp ((sA s).1 (treO (sA s).1 kk.1)) kk.1)) h1 := k
        rw [treO_is ok.a.ndid hq hj, em] at k
        have el : isL ((sA s).1 q) = false := by
          cases eT : (sA s).1 q with
          | leaf => rw [eT] at hj; cases hj
          | inner => rfl
        have ha : q / 24 < 3 := by omega
        have qe : 24 * (q / 24) + q % 24 = q := by omega
        have hp : (sA s).2.1 t = nI (q / 24) := (ok.a.1.2.2 t (q / 24) t20 ha).mpr ⟨q % 24, by omega, by rw [qe]; exact hit⟩
        have r16 : q % 24 < 16 := ok.a.wf.lowr hw ha (by omega) (by rw [qe]; exact el)
        generalize hA : q / 24 = a at *
        generalize hR : q % 24 = r0 at *
        have m100 : m < 2 ^ 31 := by
          have := tr_dp_le (ok.a.wf.2.2.2.2.1 q hq).2.1 em
          have := (ok.a.wf.2.2.2.2.1 q hq).2.2 el
          omega
        have v1 : gi h1 458 (240 + t) = nI a := by
          have := (i1.ra.2 t t20).1
          rw [Nat.zero_add] at this
          rw [this, hp]
        have key := up_to (P := fun n => Wp G (m_X12_depth, d + 20, 0, 0, fun v h2 => ∃ r, v = some (.int r) ∧ Q r h2) (0, 0) 35 [.ref 446, .int (nI t), .int (nI kk.1), .int (if r0 < n then nI m else -1), .int (nI n), .null] [] h1) 16 (fun n hn ih => ?_) ?_
        · exact key
        · refine x_X12_depth_35 ?_
          rw [if_neg (li_no 16 16 rfl hn (by decide)), i1.la.md.2.1, show (240 : Int32) = nI 240 from rfl, nI_add, cl_nI (show 240 + t < 2 ^ 31 by omega), v1]
          refine ⟨i1.la.md.1, 4485, i1.la.md.2.2, vp_nI (by omega) (by decide), ?_⟩
          obtain ⟨w1, w2⟩ := i1.rr a n (by omega) hn
          have wfr := ok.a.wf.2.2.2.2.1 (24 * a + n) (by omega)
          have rka : isL ((sA s).1 (24 * a + n)) = true ∨ tr_rk ((sA s).1 (24 * a + n)) ≤ 16 := by
            cases z : isL ((sA s).1 (24 * a + n)) with
            | true => exact Or.inl rfl
            | false => right; rw [wfr.2.2 z]; omega
          have tt := r_rootAt (G := G) (d := d + 18) (b := 0) (q := a) (r := n) (S := gi h1 458) (Q := fun v h2 => h2.1[446]? = some (0, 11) ∧ ci G (d + 19) m_X12_depthFrom [.ref 446, .int v, .int (nI kk.1)] h2 (fun r4 h5 => if r4 < 0 then Wp G (m_X12_depth, d + 19 + 1, 0, 0, fun v h2 => ∃ r, v = some (.int r) ∧ Q r h2) (0, 0) 35 [.ref 446, .int (nI t), .int (nI kk.1), .int (if r0 < n then nI m else -1), .int (nI n + 1), .null] [] h5 else Wp G (m_X12_depth, d + 19 + 1, 0, 0, fun v h2 => ∃ r, v = some (.int r) ∧ Q r h2) (0, 0) 35 [.ref 446, .int (nI t), .int (nI kk.1), .int r4, .int (nI n + 1), .null] [] h5)) i1.la.md (by omega) (by
            rw [s8_self, w2]
            refine ⟨i1.la.md.1, ?_⟩
            have t2 := r_depthFrom (G := G) (S := gi h1 458) (j := kk.1) i1.la.md rn.1 ((sA s).1 (24 * a + n)) (d + 17) (fun r4 h5 => if r4 < 0 then Wp G (m_X12_depth, d + 19 + 1, 0, 0, fun v h2 => ∃ r, v = some (.int r) ∧ Q r h2) (0, 0) 35 [.ref 446, .int (nI t), .int (nI kk.1), .int (if r0 < n then nI m else -1), .int (nI n + 1), .null] [] h5 else Wp G (m_X12_depth, d + 19 + 1, 0, 0, fun v h2 => ∃ r, v = some (.int r) ∧ Q r h2) (0, 0) 35 [.ref 446, .int (nI t), .int (nI kk.1), .int r4, .int (nI n + 1), .null] [] h5) w1 wfr.2.1 (rka.imp id (fun z => by omega)) (rka.imp id (fun z => by omega)) (by
              rw [s8_self, nI_1]
              by_cases c2 : n = r0
              · rw [c2, qe, em, if_neg (show ¬ oI (some m) < 0 from nI_pos m100)]
                rw [c2, if_pos (Nat.lt_succ_self _)] at ih
                exact ih
              · have nj : kk.1 ∉ tr_ids ((sA s).1 (24 * a + n)) := fun z => by
                  have := aids_one ok.a.ndid hq (show 24 * a + n < 72 by omega) hj z
                  omega
                rw [tr_dp_none nj, if_pos (show oI none < 0 by decide)]
                have e : (if r0 < n + 1 then nI m else -1) = (if r0 < n then nI m else -1) := by
                  by_cases c3 : r0 < n
                  · rw [if_pos c3, if_pos (by omega)]
                  · rw [if_neg c3, if_neg (by omega)]
                rw [e] at ih
                exact ih)
            rw [s8_self] at t2
            exact t2)
          rw [s8_self] at tt
          exact tt
        · refine x_X12_depth_35 ?_
          rw [if_pos (li_yes 16 16 rfl), if_pos r16]
          exact ⟨_, rfl, k⟩
end QR1
