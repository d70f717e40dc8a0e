/-! WHAT IS ANSWERED WITHOUT A TRIAL, and how the class answers it -/
theorem okN.wf {N w : Nat} {A : AF} (h : okN N A w) : wf A.1 .leaf w := h.1.1
theorem okN.out {N w : Nat} {A : AF} (h : okN N A w) {t : Nat} (h1 : N ≤ t) (h2 : t < 20) : A.2.1 t = -1 ∧ A.2.2.1 t = -1 := h.2.2.1 t h1 h2
theorem okN.lb {N w : Nat} {A : AF} (h : okN N A w) : LBs N A.1 := h.2.2.2.2
theorem m1_nI {a : Nat} (h : a < 2 ^ 31) : ¬ (-1 : Int32) = nI a := fun q => nI_nm1 h q.symm
theorem okN.in20 {N w t : Nat} {A : AF} (h : okN N A w) (ht : t ∈ aits A.1) : t < 20 := h.wf.2.2.1 t (List.mem_append_left _ ht)
theorem okN.heaped {N w t : Nat} {A : AF} (h : okN N A w) (ht : t ∈ aits A.1) : ∃ a, a < 3 ∧ A.2.1 t = nI a := by
  obtain ⟨q, hq, hm⟩ := aits_mem.mp ht
  have t20 := h.in20 ht
  have ha : q / 24 < 3 := by omega
  refine ⟨q / 24, ha, (h.1.2.2 t (q / 24) t20 ha).mpr ⟨q % 24, by omega, ?_⟩⟩
  rw [show 24 * (q / 24) + q % 24 = q by omega]; exact hm
theorem okN.low {N w t : Nat} {A : AF} (h : okN N A w) (ht : t ∈ aits A.1) : t < N := by
  have t20 := h.in20 ht
  by_cases c : t < N
  · exact c
  · obtain ⟨a, ha, e⟩ := h.heaped ht
    rw [(h.out (by omega) t20).1] at e
    exact absurd e (m1_nI (by omega))
theorem okN_rsd {N w t : Nat} {A : AF} {lt lt' : Nat → Nat → Bool} (h : okN N A w) (ha : Agr N lt lt') : rsd lt A.1 t = rsd lt' A.1 t := by
  by_cases c : t ∈ aits A.1
  · exact rsd_agr ha h.lb (h.low c)
  · rw [rsd_out c, rsd_out c]
theorem okN_cnt {N w : Nat} {A : AF} {lt lt' : Nat → Nat → Bool} (h : okN N A w) (ha : Agr N lt lt') (p : Nat → Bool) (n : Nat) : cnt (fun t => p t && rsd lt A.1 t) n = cnt (fun t => p t && rsd lt' A.1 t) n := by
  have : (fun t => p t && rsd lt A.1 t) = (fun t => p t && rsd lt' A.1 t) := by funext t; rw [okN_rsd h ha]
  rw [this]
theorem cnt_eq {p q : Nat → Bool} {n : Nat} (h : ∀ t, t < n → p t = q t) : cnt p n = cnt q n := by
  induction n with
  | zero => rfl
  | succ n ih =>
    have e := ih (fun t ht => h t (by omega))
    show cnt p n + _ = cnt q n + _
    rw [e, h n (by omega)]
def aItem (s : Sta) (x y : Int32) : Int32 := if inB (pN (sP s)) x = true then (if y = 0 then kdP (sP s) (ix x) else if y = 1 then (sA s).2.1 (ix x) else if y = 2 then (sA s).2.2.1 (ix x) else if y = 3 then (sA s).2.2.2 (ix x) else if y = 4 then b2i (rsd (ltP (sP s)) (sA s).1 (ix x)) else -2) else -2
def rsI (s : Sta) (a : Nat) : Int32 := nI (cnt (fun t => decide ((sA s).2.1 t = nI a) && rsd (ltP (sP s)) (sA s).1 t) 20)
def aHeap (s : Sta) (x y : Int32) : Int32 := if inB (pHn (sP s)) x = true then (if y = 0 then hcount (sA s).2.1 (ix x) else if y = 1 then nI (cnt (trP (sA s).1 (ix x)) 24) else if y = 2 then rsI s (ix x) else if y = 3 then grk (sA s).1 (ix x) 24 else -2) else -2
def aTreeT (P : Pl) : Tr → Int32 → Int32
  | .leaf, _ => -1
  | .inner z k u l r, y => if y = 0 then nI (n_rk k) else if y = 1 then n_tg k else if y = 2 then nI (n_ls k).length else if y = 3 then kyP P (n_ld k) else if y = 4 then nI (tr_ids (.inner z k u l r)).length else -1
def aTree (s : Sta) (x y z : Int32) : Int32 := if inB (pHn (sP s)) x = true then aTreeT (sP s) (tatF (sA s).1 (ix x) y 24 0) z else -1
def aListT : Tr → Int32 → Int32
  | .leaf, _ => -1
  | .inner _ k _ _ _, y => lsAt (n_ls k) y
def aListed (s : Sta) (x y z : Int32) : Int32 := if inB (pHn (sP s)) x = true then aListT (tatF (sA s).1 (ix x) y 24 0) z else -1
def aShelf (s : Sta) (x : Int32) : Int32 := if inB (pSs (sP s)) x = true then nI (cnt (fun t => decide ((sA s).2.2.1 t = nI (ix x))) 20) else -1
def flo (A : AF) (N : Nat) : Int32 := nI (cnt (fun t => decide (A.2.1 t = -1) && decide (A.2.2.1 t = -1)) N)
def rsA (P : Pl) (A : AF) : Int32 := nI (cnt (rsd (ltP P) A.1) 20)
def aCount (s : Sta) (x : Int32) : Int32 := if x = 0 then nI (pHn (sP s)) else if x = 1 then nI (pSs (sP s)) else if x = 2 then nI (pN (sP s)) else if x = 3 then nI (pSh (sP s)) else if x = 4 then flo (sA s) (pN (sP s)) else if x = 5 then rsA (sP s) (sA s) else if x = 6 then nI (sN s) else if x = 7 then nI (sW s).length else if x = 8 then nI (sS s).length else if x = 9 then nI (sU s).length else if x = 10 then nI (sT s).length else -1
def aBits (s : Sta) (x : Int32) : Int32 := if inB (pN (sP s)) x = true then kyP (sP s) (ix x) else -1
def aBound (s : Sta) (x : Int32) : Int32 := if inB (pHn (sP s)) x = true then (if (hcount (sA s).2.1 (ix x) >>> (nI (pSh (sP s)) &&& 31)) < rsI s (ix x) then 0 else 1) else 0
def aSelect (s : Sta) (x y : Int32) : Int32 := if inB (pHn (sP s)) x = true then oI (fnd (selP (ahP (sP s)) (sA s).2.1 (nI (ix x)) y) 20) else -1
def ndA (hs : Hs) (t : Nat) : Option Nd := (ands hs).find? (fun k => decide (t ∈ n_ls k))
theorem ndA_some {hs : Hs} {t : Nat} {k : Nd} (h : ndA hs t = some k) : k ∈ ands hs ∧ t ∈ n_ls k := by
  have h : (ands hs).find? (fun k => decide (t ∈ n_ls k)) = some k := h
  exact ⟨List.mem_of_find?_eq_some h, of_decide_eq_true (List.find?_some (p := fun k => decide (t ∈ n_ls k)) h)⟩
theorem ndA_none {hs : Hs} {t : Nat} (h : ndA hs t = none) : t ∉ aits hs := by
  intro q
  obtain ⟨k, hk, ht⟩ := aits_nds.mp q
  have := List.find?_eq_none.mp h k hk
  exact this (decide_eq_true ht)
theorem ndA_is {hs : Hs} {t : Nat} {k : Nd} (hn : (aits hs).Nodup) (hk : k ∈ ands hs) (ht : t ∈ n_ls k) : ndA hs t = some k := by
  cases e : ndA hs t with
  | none => exact absurd (aits_nds.mpr ⟨k, hk, ht⟩) (ndA_none e)
  | some k' =>
    obtain ⟨a, b⟩ := ndA_some e
    rw [ands_one hn a hk b ht]
def treO (hs : Hs) (j : Nat) : Nat := (fnd (fun q => decide (j ∈ tr_ids (hs q))) 72).getD 0
def aDepth (s : Sta) (x : Int32) : Int32 := if inB (pN (sP s)) x = true then (match ndA (sA s).1 (ix x) with
  | none => -1
  | some k => oI (tr_dp ((sA s).1 (treO (sA s).1 k.1)) k.1)) else -1
theorem fnd_sm {p : Nat → Bool} : ∀ {n x : Nat}, fnd p n = some x → x < n ∧ p x = true
  | 0, x, h => by cases h
  | n + 1, x, h => by
    rw [fnd] at h
    cases e : fnd p n with
    | some y =>
      rw [e] at h
      cases h
      obtain ⟨a, b⟩ := fnd_sm e
      exact ⟨by omega, b⟩
    | none =>
      rw [e] at h
      simp only at h
      split at h
      next c => cases h; exact ⟨Nat.lt_succ_self _, c⟩
      · cases h
theorem fnd_nn {p : Nat → Bool} : ∀ {n x : Nat}, x < n → p x = true → fnd p n ≠ none
  | 0, x, h, _ => absurd h (Nat.not_lt_zero _)
  | n + 1, x, h, hp => by
    intro q
    rw [fnd] at q
    cases e : fnd p n with
    | some y => rw [e] at q; cases q
    | none =>
      rw [e] at q
      simp only at q
      by_cases c : x = n
      · rw [← c, if_pos hp] at q; cases q
      · exact fnd_nn (by omega) hp e
theorem treO_is {hs : Hs} {j q : Nat} (hn : (aids hs).Nodup) (hq : q < 72) (hj : j ∈ tr_ids (hs q)) : treO hs j = q := by
  unfold treO
  cases e : fnd (fun q => decide (j ∈ tr_ids (hs q))) 72 with
  | none => exact absurd e (fnd_nn hq (decide_eq_true hj))
  | some y =>
    obtain ⟨a, b⟩ := fnd_sm e
    exact aids_one hn a hq (of_decide_eq_true b) hj
section CR1
variable {G : pm_G} {d : Nat} {h : pm_H} {s : Sta} {w : Nat}
theorem c_item {x y : Int32} {Q : Int32 → pm_H → Prop} (i : InvC h s) (ok : okSta s w) (k : Q (aItem s x y) h) : ci G (d + 4) m_X11_item [.ref 0, .int x, .int y] h Q := by
  unfold aItem at k
  have n3 := ok.n3
  obtain ⟨o1, o0, o_1, o_2, o3, o4, o5, o6, -⟩ := i.la.own
  obtain ⟨p1, p2, p3, p4, p5, p6, p7⟩ := i.la.pln
  obtain ⟨q1, q2, q3, q4, q5, -⟩ := i.la.rws
  have hF : Fa h 59 := fa_of i.la (by decide)
  refine ci_wp rfl (Nat.le_of_ble_eq_true rfl) rfl (x_X11_item ⟨o1, c_isItem (d := d + 2) i ok.pl ?_⟩)
  rcases inB_or (n := pN (sP s)) x (by omega) with c | ⟨a, ha, rfl, c, cx⟩
  · rw [c] at k ⊢; rw [if_neg (by decide)] at k; rw [if_pos b0f]; exact ⟨_, rfl, k⟩
  · rw [c] at k ⊢; rw [if_pos rfl, cx] at k; rw [if_neg b1t, o_1, o6, q2]
    have a20 : a < 20 := by omega
    obtain ⟨v1, v2, v3⟩ := i.cf.2 a a20
    by_cases c0 : y = 0
    · rw [if_pos c0] at k ⊢
      refine ⟨o1, p1, q4.1, row_at (d := d + 2) q4 ?_⟩
      rw [rd_in a20 (by decide), (i.pl.2.2.2.2.1 a ha).1]
      exact ⟨_, rfl, k⟩
    · rw [if_neg c0] at k ⊢
      by_cases c1 : y = 1
      · rw [if_pos c1] at k ⊢
        refine ⟨o1, hF.1, f_at13 (d := d + 2) hF ?_⟩
        rw [rd_in a20 (by decide), v1]; exact ⟨_, rfl, k⟩
      · rw [if_neg c1] at k ⊢
        by_cases c2 : y = 2
        · rw [if_pos c2] at k ⊢
          refine ⟨o1, hF.1, f_at14 (d := d + 2) hF ?_⟩
          rw [rd_in a20 (by decide), v2]; exact ⟨_, rfl, k⟩
        · rw [if_neg c2] at k ⊢
          by_cases c3 : y = 3
          · rw [if_pos c3] at k ⊢
            refine ⟨o1, hF.1, f_at15 (d := d + 2) hF ?_⟩
            rw [rd_in a20 (by decide), v3]; exact ⟨_, rfl, k⟩
          · rw [if_neg c3] at k ⊢
            by_cases c4 : y = 4
            · rw [if_pos c4] at k ⊢
              refine ⟨o1, hF.1, s_isRaised (d := d + 1) (w := w) hF i.la.lw.1 i.cf.1 ok.a.wf a20 ?_⟩
              rw [okN_rsd ok.a (i.pl.agr ok.pl).1]
              cases e : rsd (ltP (sP s)) (sA s).1 a with
              | false => rw [e] at k; rw [if_pos b0f]; exact ⟨_, rfl, k⟩
              | true => rw [e] at k; rw [if_neg b1t]; exact ⟨_, rfl, k⟩
            · rw [if_neg c4] at k ⊢; exact ⟨_, rfl, k⟩
theorem hcount_C {a : Nat} (i : InvC h s) : cnt (fun t => decide (gi h (59 + 26) t = nI a)) 20 = cnt (fun u => decide ((sA s).2.1 u = nI a)) 20 := cnt_eq fun t ht => by rw [(i.cf.2 t ht).1]
theorem c_heap {x y : Int32} {Q : Int32 → pm_H → Prop} (i : InvC h s) (ok : okSta s w) (k : Q (aHeap s x y) h) : ci G (d + 4) m_X11_heap [.ref 0, .int x, .int y] h Q := by
  unfold aHeap at k
  have n3 := ok.n3
  obtain ⟨o1, o0, o_1, o_2, o3, o4, o5, o6, -⟩ := i.la.own
  have hF : Fa h 59 := fa_of i.la (by decide)
  refine ci_wp rfl (Nat.le_of_ble_eq_true rfl) rfl (x_X11_heap ⟨o1, c_isHeap (d := d + 2) i ok.pl ?_⟩)
  rcases inB_or (n := pHn (sP s)) x (by omega) with c | ⟨a, ha, rfl, c, cx⟩
  · rw [c] at k ⊢; rw [if_neg (by decide)] at k; rw [if_pos b0f]; exact ⟨_, rfl, k⟩
  · rw [c] at k ⊢; rw [if_pos rfl, cx] at k; rw [if_neg b1t, o6]
    by_cases c0 : y = 0
    · rw [if_pos c0] at k ⊢
      refine ⟨o1, hF.1, s_itemsIn (d := d + 1) hF ?_⟩
      rw [hcount_C i]; exact ⟨_, rfl, k⟩
    · rw [if_neg c0] at k ⊢
      by_cases c1 : y = 1
      · rw [if_pos c1] at k ⊢
        exact ⟨o1, hF.1, s_treesIn (d := d + 1) hF (by omega) i.cf.1.1 ⟨_, rfl, k⟩⟩
      · rw [if_neg c1] at k ⊢
        by_cases c2 : y = 2
        · rw [if_pos c2] at k ⊢
          refine ⟨o1, hF.1, s_raisedIn (d := d) (w := w) hF i.la.lw.1 i.cf.1 ok.a.wf (fun t ht => (i.cf.2 t ht).1) ?_⟩
          rw [okN_cnt ok.a (i.pl.agr ok.pl).1]
          exact ⟨_, rfl, k⟩
        · rw [if_neg c2] at k ⊢
          by_cases c3 : y = 3
          · rw [if_pos c3] at k ⊢
            exact ⟨o1, hF.1, s_greatestRank (d := d + 1) hF (by omega) i.cf.1.1 ⟨_, rfl, k⟩⟩
          · rw [if_neg c3] at k ⊢; exact ⟨_, rfl, k⟩
theorem c_shelf {x : Int32} {Q : Int32 → pm_H → Prop} (i : InvC h s) (ok : okSta s w) (k : Q (aShelf s x) h) : ci G (d + 4) m_X11_shelf [.ref 0, .int x] h Q := by
  unfold aShelf at k
  have n3 := ok.n3
  obtain ⟨o1, o0, o_1, o_2, o3, o4, o5, o6, -⟩ := i.la.own
  have hF : Fa h 59 := fa_of i.la (by decide)
  refine ci_wp rfl (Nat.le_of_ble_eq_true rfl) rfl (x_X11_shelf ⟨o1, c_isShelf (d := d + 2) i ok.pl ?_⟩)
  rcases inB_or (n := pSs (sP s)) x (by omega) with c | ⟨a, ha, rfl, c, cx⟩
  · rw [c] at k ⊢; rw [if_neg (by decide)] at k; rw [if_pos b0f]; exact ⟨_, rfl, k⟩
  · rw [c] at k ⊢; rw [if_pos rfl, cx] at k; rw [if_neg b1t, o6]
    exact ⟨o1, hF.1, s_itemsOn (d := d + 1) hF (fun t ht => (i.cf.2 t ht).2.1) ⟨_, rfl, k⟩⟩
theorem tatF_sm {hs : Hs} {a : Nat} {y : Int32} : ∀ (m r : Nat), tatF hs a y m r = .leaf ∨ ∃ r', r ≤ r' ∧ r' < r + m ∧ tatF hs a y m r = hs (24 * a + r') ∧ isL (hs (24 * a + r')) = false
  | 0, _ => Or.inl rfl
  | m + 1, r => by
    rw [tatF]
    by_cases c : isL (hs (24 * a + r)) = true
    · rw [if_pos c]
      rcases tatF_sm (hs := hs) (a := a) (y := y) m (r + 1) with z | ⟨r', z1, z2, z3, z4⟩
      · exact Or.inl z
      · exact Or.inr ⟨r', by omega, by omega, z3, z4⟩
    · rw [if_neg c]
      by_cases c2 : y = nI (cnt (trP hs a) r)
      · rw [if_pos c2]; exact Or.inr ⟨r, Nat.le_refl _, by omega, rfl, by simpa using c⟩
      · rw [if_neg c2]
        rcases tatF_sm (hs := hs) (a := a) (y := y) m (r + 1) with z | ⟨r', z1, z2, z3, z4⟩
        · exact Or.inl z
        · exact Or.inr ⟨r', by omega, by omega, z3, z4⟩
theorem tr_inner {T : Tr} (h : isL T = false) : ∃ z k u l r, T = .inner z k u l r := by
  cases T with
  | leaf => cases h
  | inner z k u l r => exact ⟨z, k, u, l, r, rfl⟩
theorem nls_nd : ∀ {T : Tr} {k : Nd}, (tr_its T).Nodup → k ∈ tr_nds T → (n_ls k).Nodup
  | .leaf, _, _, h => by cases h
  | .inner _ c _ l r, k, hn, h => by
    have hn : (n_ls c ++ (tr_its l ++ tr_its r)).Nodup := hn
    obtain ⟨n1, n2, -⟩ := List.nodup_append.mp hn
    obtain ⟨n3, n4, -⟩ := List.nodup_append.mp n2
    rcases List.mem_cons.mp h with q | q
    · rw [q]; exact n1
    · rcases List.mem_append.mp q with q | q
      · exact nls_nd n3 q
      · exact nls_nd n4 q
theorem okN.ndit {N : Nat} {A : AF} (ok : okN N A w) : (aits A.1).Nodup := by have := ok.wf.2.1; simpa [tr_its] using this
theorem okN.ndid {N : Nat} {A : AF} (ok : okN N A w) : (aids A.1).Nodup := by have := ok.wf.1; simpa [tr_ids] using this
theorem len_its {N q : Nat} {A : AF} (ok : okN N A w) (hq : q < 72) {k : Nd} (hk : k ∈ tr_nds (A.1 q)) : (n_ls k).length ≤ 20 :=
  nodup_len (nls_nd (aits_nd ok.ndit hq) hk) (fun t ht => ok.in20 (aits_nds.mpr ⟨k, ands_mem.mpr ⟨q, hq, hk⟩, ht⟩))
theorem c_listed {x y z : Int32} {Q : Int32 → pm_H → Prop} (i : InvC h s) (ok : okSta s w) (k : Q (aListed s x y z) h) : ci G (d + 4) m_X11_listed [.ref 0, .int x, .int y, .int z] h Q := by
  unfold aListed at k
  have n3 := ok.n3
  obtain ⟨o1, o0, o_1, o_2, o3, o4, o5, o6, -⟩ := i.la.own
  have hF : Fa h 59 := fa_of i.la (by decide)
  refine ci_wp rfl (Nat.le_of_ble_eq_true rfl) rfl (x_X11_listed ⟨o1, c_isHeap (d := d + 2) i ok.pl ?_⟩)
  rcases inB_or (n := pHn (sP s)) x (by omega) with c | ⟨a, ha, rfl, c, cx⟩
  · rw [c] at k ⊢; rw [if_neg (by decide)] at k; rw [if_pos b0f]; exact ⟨_, rfl, k⟩
  · rw [c] at k ⊢; rw [if_pos rfl, cx] at k; rw [if_neg b1t, o6]
    refine ⟨o1, hF.1, s_treeAt (d := d + 1) hF (by omega) i.cf.1.1 ?_⟩
    rcases tatF_sm (hs := (sA s).1) (a := a) (y := y) 24 0 with e | ⟨r, r1, r2, e, el⟩
    · rw [e] at k ⊢
      rw [if_pos (show tr_no .leaf = -1 from rfl)]; exact ⟨_, rfl, k⟩
    · have hq : 24 * a + r < 72 := by omega
      have hN := (i.cf.1.1 _ hq).1
      have hl : ∀ k ∈ tr_nds ((sA s).1 (24 * a + r)), (n_ls k).length ≤ 20 := fun k hk => len_its ok.a hq hk
      rw [e] at k ⊢
      obtain ⟨z', kk, u, l, rr, eT⟩ := tr_inner el
      rw [eT] at k hN hl ⊢
      have k24 := hN.1.1
      rw [show tr_no (.inner z' kk u l rr) = nI kk.1 from rfl, if_neg (nI_nm1 (by omega)), o6]
      exact ⟨o1, hF.1, s_listedAt (d := d + 1) hF hN.1 (hl kk List.mem_cons_self) ⟨_, rfl, k⟩⟩
theorem s_keyOf3 {n : Nat} {Q : UInt32 → pm_H → Prop} (i : InvC h s) (ok : okSta s w) (hn : n < pN (sP s)) (k : Q (UInt32.ofNat (ksP (sP s) n)) h) : cf G (d + 1) m_X4_keyOf [.ref 3, .int (nI n)] h Q := by
  have n3 := ok.n3
  obtain ⟨p1, g6, kk⟩ := i.la.lw.1
  refine cf_wp rfl (Nat.le_of_ble_eq_true rfl) rfl (x_X4_keyOf ?_)
  rw [if_neg (nI_pos (by omega)), g6]
  refine ⟨p1, 20, kk, ?_⟩
  rw [if_neg (show ¬ Int32.ofNat 20 ≤ nI n from nI_nlen (by omega) (by decide)), cl_nI (show n < 2 ^ 31 by omega)]
  refine ⟨vp_nI (by omega) (by decide), _, rfl, ?_⟩
  rw [(i.pl.2.2.2.2.1 n hn).2.2]
  exact k
theorem okN.lead {N : Nat} {A : AF} (h : okN N A w) {k : Nd} (hk : k ∈ ands A.1) : n_ld k < N := by
  obtain ⟨q, hq, hk⟩ := ands_mem.mp hk
  exact h.lb q hq k hk
theorem c_tree {x y z : Int32} {Q : Int32 → pm_H → Prop} (i : InvC h s) (ok : okSta s w) (hw : w ≤ 1000) (k : Q (aTree s x y z) h) : ci G (d + 4) m_X11_tree [.ref 0, .int x, .int y, .int z] h Q := by
  unfold aTree at k
  have n3 := ok.n3
  obtain ⟨o1, o0, o_1, o_2, o3, o4, o5, o6, -⟩ := i.la.own
  have hF : Fa h 59 := fa_of i.la (by decide)
  refine ci_wp rfl (Nat.le_of_ble_eq_true rfl) rfl (x_X11_tree ⟨o1, c_isHeap (d := d + 2) i ok.pl ?_⟩)
  rcases inB_or (n := pHn (sP s)) x (by omega) with c | ⟨a, ha, rfl, c, cx⟩
  · rw [c] at k ⊢; rw [if_neg (by decide)] at k; rw [if_pos b0f]; exact ⟨_, rfl, k⟩
  · rw [c] at k ⊢; rw [if_pos rfl, cx] at k; rw [if_neg b1t, o6]
    refine ⟨o1, hF.1, s_treeAt (d := d + 1) hF (by omega) i.cf.1.1 ?_⟩
    rcases tatF_sm (hs := (sA s).1) (a := a) (y := y) 24 0 with e | ⟨r, r1, r2, e, el⟩
    · rw [e] at k ⊢
      rw [if_pos (show tr_no .leaf = -1 from rfl)]; exact ⟨_, rfl, k⟩
    · have hq : 24 * a + r < 72 := by omega
      have hN := (i.cf.1.1 _ hq).1
      have hTW := (ok.a.wf.2.2.2.2.1 _ hq).1
      have hnu := fun k => s_nodesUnder (G := G) (d := d) (q := 24 * a + r) hF i.cf.1 ok.a.wf hw hq el k (Q := fun v h1 => ∃ r, (some (Value.int v) : Option Value) = some (.int r) ∧ Q r h1)
      have hld : ∀ k ∈ tr_nds ((sA s).1 (24 * a + r)), n_ld k < pN (sP s) := fun k hk => ok.a.lb _ hq k hk
      rw [e] at k ⊢
      obtain ⟨z', kk, u, l, rr, eT⟩ := tr_inner el
      rw [eT] at k hN hTW hld hnu ⊢
      obtain ⟨⟨nn, -, -⟩, -, -⟩ := hTW
      obtain ⟨k24, m1, m2, m3, m4, m5, m6, -⟩ := hN.1
      rw [show tr_no (.inner z' kk u l rr) = nI kk.1 from rfl] at hnu ⊢
      rw [if_neg (nI_nm1 (by omega)), o6, o_1]
      rw [aTreeT] at k
      by_cases c0 : z = 0
      · rw [if_pos c0] at k ⊢
        refine ⟨o1, hF.1, f_at1 (d := d + 2) hF ?_⟩
        rw [rd_in k24 (by decide), m1]; exact ⟨_, rfl, k⟩
      · rw [if_neg c0] at k ⊢
        by_cases c1 : z = 1
        · rw [if_pos c1] at k ⊢
          refine ⟨o1, hF.1, f_at2 (d := d + 2) hF ?_⟩
          rw [rd_in k24 (by decide), m2]; exact ⟨_, rfl, k⟩
        · rw [if_neg c1] at k ⊢
          by_cases c2 : z = 2
          · rw [if_pos c2] at k ⊢
            refine ⟨o1, hF.1, f_at6 (d := d + 2) hF ?_⟩
            rw [rd_in k24 (by decide), m6]; exact ⟨_, rfl, k⟩
          · rw [if_neg c2] at k ⊢
            by_cases c3 : z = 3
            · rw [if_pos c3] at k ⊢
              have lN := hld kk List.mem_cons_self
              refine ⟨o1, hF.1, f_at3 (d := d + 2) hF ?_⟩
              rw [rd_in k24 (by decide), m3 nn]
              refine ⟨i.la.lw.1.1, s_keyOf3 (d := d + 2) i ok lN ?_⟩
              exact s_bitsOf (d := d + 2) ((ok.pl.key lN).mono (by decide) (by decide)) ⟨_, rfl, k⟩
            · rw [if_neg c3] at k ⊢
              by_cases c4 : z = 4
              · rw [if_pos c4] at k ⊢
                exact ⟨o1, hF.1, hnu ⟨_, rfl, k⟩⟩
              · rw [if_neg c4] at k ⊢; exact ⟨_, rfl, k⟩
theorem c_count {x : Int32} {Q : Int32 → pm_H → Prop} (i : InvC h s) (ok : okSta s w) (k : Q (aCount s x) h) : ci G (d + 4) m_X11_count [.ref 0, .int x] h Q := by
  unfold aCount at k
  have n3 := ok.n3
  obtain ⟨o1, o0, o_1, o_2, o3, o4, o5, o6, -⟩ := i.la.own
  obtain ⟨p1, p2, p3, p4, p5, p6, p7⟩ := i.la.pln
  obtain ⟨h1, h2, h3⟩ := i.hn
  have hF : Fa h 59 := fa_of i.la (by decide)
  obtain ⟨nw, -, -, u3, -⟩ := i.past
  refine ci_wp rfl (Nat.le_of_ble_eq_true rfl) rfl (x_X11_count ?_)
  rw [o_1, p2, p3, p4, o6, o3, o0, h1, h2, h3, i.pl.2.2.2.2.2.2.2, i.shut, i.see.1, u3, i.wk.1, i.tx.1]
  by_cases c0 : x = 0
  · rw [if_pos c0] at k ⊢; exact ⟨o1, p1, p5, _, rfl, k⟩
  rw [if_neg c0] at k ⊢
  by_cases c1 : x = 1
  · rw [if_pos c1] at k ⊢; exact ⟨o1, p1, p6, _, rfl, k⟩
  rw [if_neg c1] at k ⊢
  by_cases c2 : x = 2
  · rw [if_pos c2] at k ⊢; exact ⟨o1, p1, p7, _, rfl, k⟩
  rw [if_neg c2] at k ⊢
  by_cases c3 : x = 3
  · rw [if_pos c3] at k ⊢; exact ⟨o1, p1, _, rfl, k⟩
  rw [if_neg c3] at k ⊢
  by_cases c4 : x = 4
  · rw [if_pos c4] at k ⊢
    exact ⟨o1, hF.1, s_itemsOnFloor (d := d + 1) hF i.la h3 (by omega) (fun t ht => ⟨(i.cf.2 t ht).1, (i.cf.2 t ht).2.1⟩) ⟨_, rfl, k⟩⟩
  rw [if_neg c4] at k ⊢
  by_cases c5 : x = 5
  · rw [if_pos c5] at k ⊢
    refine ⟨o1, hF.1, s_raisedInAll (d := d) (w := w) hF i.la.lw.1 i.cf.1 ok.a.wf ?_⟩
    rw [show rsd (kLt (gf h 16)) (sA s).1 = rsd (ltP (sP s)) (sA s).1 from funext fun t => okN_rsd ok.a (i.pl.agr ok.pl).1]
    exact ⟨_, rfl, k⟩
  rw [if_neg c5] at k ⊢
  by_cases c6 : x = 6
  · rw [if_pos c6] at k ⊢; exact ⟨o1, _, rfl, k⟩
  rw [if_neg c6] at k ⊢
  by_cases c7 : x = 7
  · rw [if_pos c7] at k ⊢; exact ⟨o1, i.la.wk.1, _, rfl, k⟩
  rw [if_neg c7] at k ⊢
  by_cases c8 : x = 8
  · rw [if_pos c8] at k ⊢; exact ⟨o1, _, rfl, k⟩
  rw [if_neg c8] at k ⊢
  by_cases c9 : x = 9
  · rw [if_pos c9] at k ⊢; exact ⟨o1, _, rfl, k⟩
  rw [if_neg c9] at k ⊢
  by_cases c10 : x = 10
  · rw [if_pos c10] at k ⊢; exact ⟨o1, i.la.tap.1, _, rfl, k⟩
  rw [if_neg c10] at k ⊢; exact ⟨_, rfl, k⟩
theorem c_bits {x : Int32} {Q : Int32 → pm_H → Prop} (i : InvC h s) (ok : okSta s w) (k : Q (aBits s x) h) : ci G (d + 4) m_X11_bits [.ref 0, .int x] h Q := by
  unfold aBits at k
  have n3 := ok.n3
  obtain ⟨o1, o0, o_1, -⟩ := i.la.own
  refine ci_wp rfl (Nat.le_of_ble_eq_true rfl) rfl (x_X11_bits ⟨o1, c_isItem (d := d + 2) i ok.pl ?_⟩)
  rcases inB_or (n := pN (sP s)) x (by omega) with c | ⟨a, ha, rfl, c, cx⟩
  · rw [c] at k ⊢; rw [if_neg (by decide)] at k; rw [if_pos b0f]; exact ⟨_, rfl, k⟩
  · rw [c] at k ⊢; rw [if_pos rfl, cx] at k; rw [if_neg b1t, o_1]
    refine ⟨o1, i.la.lw.1.1, s_keyOf3 (d := d + 2) i ok ha ?_⟩
    exact s_bitsOf (d := d + 2) ((ok.pl.key ha).mono (by decide) (by decide)) ⟨_, rfl, k⟩
theorem c_bound {x : Int32} {Q : Int32 → pm_H → Prop} (i : InvC h s) (ok : okSta s w) (k : Q (aBound s x) h) : ci G (d + 4) m_X11_bound [.ref 0, .int x] h Q := by
  unfold aBound at k
  have n3 := ok.n3
  obtain ⟨o1, o0, o_1, o_2, o3, o4, o5, o6, -⟩ := i.la.own
  have hF : Fa h 59 := fa_of i.la (by decide)
  refine ci_wp rfl (Nat.le_of_ble_eq_true rfl) rfl (x_X11_bound ⟨o1, c_isHeap (d := d + 2) i ok.pl ?_⟩)
  rcases inB_or (n := pHn (sP s)) x (by omega) with c | ⟨a, ha, rfl, c, cx⟩
  · rw [c] at k ⊢; rw [if_neg (by decide)] at k; rw [if_pos b0f]; exact ⟨_, rfl, k⟩
  · rw [c] at k ⊢; rw [if_pos rfl, cx] at k; rw [if_neg b1t, o6]
    refine ⟨o1, hF.1, s_raisedIn (d := d) (w := w) hF i.la.lw.1 i.cf.1 ok.a.wf (fun t ht => (i.cf.2 t ht).1) ?_⟩
    rw [okN_cnt ok.a (i.pl.agr ok.pl).1, o6]
    refine ⟨o1, hF.1, s_itemsIn (d := d + 1) hF ?_⟩
    rw [hcount_C i, o_1, i.pl.2.2.2.2.2.2.2]
    refine ⟨o1, i.la.lw.1.1, ?_⟩
    have k : Q (if (nI (cnt (fun u => decide ((sA s).2.1 u = nI a)) 20) >>> (nI (pSh (sP s)) &&& 31)) < nI (cnt (fun t => decide ((sA s).2.1 t = nI a) && rsd (ltP (sP s)) (sA s).1 t) 20) then 0 else 1) h := k
    by_cases c0 : (nI (cnt (fun u => decide ((sA s).2.1 u = nI a)) 20) >>> (nI (pSh (sP s)) &&& 31)) < nI (cnt (fun t => decide ((sA s).2.1 t = nI a) && rsd (ltP (sP s)) (sA s).1 t) 20)
    · rw [if_pos c0] at k ⊢; exact ⟨_, rfl, k⟩
    · rw [if_neg c0] at k ⊢; exact ⟨_, rfl, k⟩
theorem selP_agr {N : Nat} {ah ah' : Nat → Nat → Bool} {hp : Nat → Int32} {x y : Int32} (ha : Agr N ah ah') (hn : ∀ t, N ≤ t → t < 20 → ¬ hp t = x) : ∀ t, t < 20 → selP ah hp x y t = selP ah' hp x y t := by
  intro t ht
  unfold selP
  by_cases c : hp t = x
  · have tN : t < N := by
      by_cases z : t < N
      · exact z
      · exact absurd c (hn t (by omega) ht)
    rw [cnt_agr (q := fun u => ah u t) (q' := fun u => ah' u t) (fun u hu => ha u t hu tN) hn]
  · rw [decide_eq_false c, Bool.false_and, Bool.false_and]
theorem c_select {x y : Int32} {Q : Int32 → pm_H → Prop} (i : InvC h s) (ok : okSta s w) (k : Q (aSelect s x y) h) : ci G (d + 5) m_X11_select [.ref 0, .int x, .int y] h Q := by
  unfold aSelect at k
  have n3 := ok.n3
  obtain ⟨o1, o0, o_1, o_2, o3, o4, o5, o6, -⟩ := i.la.own
  have hF : Fa h 59 := fa_of i.la (by decide)
  refine ci_wp rfl (Nat.le_of_ble_eq_true rfl) rfl (x_X11_select ⟨o1, c_isHeap (d := d + 3) i ok.pl ?_⟩)
  rcases inB_or (n := pHn (sP s)) x (by omega) with c | ⟨a, ha, rfl, c, cx⟩
  · rw [c] at k ⊢; rw [if_neg (by decide)] at k; rw [if_pos b0f]; exact ⟨_, rfl, k⟩
  · rw [c] at k ⊢; rw [if_pos rfl, cx] at k; rw [if_neg b1t, o6]
    refine ⟨o1, hF.1, s_selected (d := d) hF i.la.lw.1 (fun t ht => (i.cf.2 t ht).1) ?_⟩
    rw [fnd_same (selP_agr (i.pl.agr ok.pl).2 (fun t h1 h2 => by rw [(ok.a.out h1 h2).1]; exact m1_nI (by omega)))]
    exact ⟨_, rfl, k⟩
theorem c_depth {x : Int32} {Q : Int32 → pm_H → Prop} (i : InvC h s) (ok : okSta s w) (hw : w ≤ 1000) (k : Q (aDepth s x) h) : ci G (d + 4) m_X11_depth [.ref 0, .int x] h Q := by
  unfold aDepth at k
  have n3 := ok.n3
  obtain ⟨o1, o0, o_1, o_2, o3, o4, o5, o6, -⟩ := i.la.own
  have hF : Fa h 59 := fa_of i.la (by decide)
  refine ci_wp rfl (Nat.le_of_ble_eq_true rfl) rfl (x_X11_depth ⟨o1, c_isItem (d := d + 2) i ok.pl ?_⟩)
  rcases inB_or (n := pN (sP s)) x (by omega) with c | ⟨a, ha, rfl, c, cx⟩
  · rw [c] at k ⊢; rw [if_neg (by decide)] at k; rw [if_pos b0f]; exact ⟨_, rfl, k⟩
  · rw [c] at k ⊢; rw [if_pos rfl, cx] at k; rw [if_neg b1t, o6]
    have a20 : a < 20 := by omega
    refine ⟨o1, hF.1, f_at12 (d := d + 2) hF ?_⟩
    rw [rd_in a20 (by decide)]
    cases e : ndA (sA s).1 a with
    | none =>
      rw [e] at k
      rw [i.cf.1.2.2.2 a a20 (by simpa [tr_its] using ndA_none e), if_pos rfl]
      exact ⟨_, rfl, k⟩
    | some kk =>
      rw [e] at k
      obtain ⟨e1, e2⟩ := ndA_some e
      obtain ⟨q, hq, hk⟩ := ands_mem.mp e1
      have hN := (i.cf.1.1 _ hq).1
      obtain ⟨p', x', y', nn⟩ := hN.nd hk
      have hj : kk.1 ∈ tr_ids ((sA s).1 q) := by rw [tr_ids_nds]; exact List.mem_map_of_mem hk
      obtain ⟨m, em⟩ := tr_dp_some hj
      have wfq := ok.a.wf.2.2.2.2.1 q hq
      have eq := treO_is (hs := (sA s).1) (by simpa [tr_ids] using ok.a.wf.1) hq hj
      have k : Q (oI (tr_dp ((sA s).1 (treO (sA s).1 kk.1)) kk.1)) h := k
      rw [eq, em] at k
      rw [(nn.2.2.2.2.2.2.2.2.1 a e2).1, if_neg (nI_nm1 (show kk.1 < 2 ^ 31 by have := nn.1; omega))]
      rw [o6]
      refine ⟨o1, hF.1, s_depthOf (d := d + 1) hF hN wfq.2.1 nn.1 ?_ em ⟨_, rfl, k⟩⟩
      cases el : isL ((sA s).1 q) with
      | false => rw [wfq.2.2 el]; omega
      | true =>
        cases eT : (sA s).1 q with
        | leaf => rw [eT] at hj; cases hj
        | inner => rw [eT] at el; cases el
end CR1
