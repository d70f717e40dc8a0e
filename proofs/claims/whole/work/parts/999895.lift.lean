/-! LIFT: both sides; what stands of the CKEYs -/
theorem ksP_ok {P : Pl} (hO : PlO P) (t : Nat) : Okx 110 140 (ksP P t) := by
  unfold ksP
  by_cases ht : t < pN P
  · obtain ⟨a, b, c, e, f⟩ := hO.item ht
    exact key_ok (by omega) (by omega) (by omega)
  · have e : (pI P).getD t itO = itO := by
      have ht : (pI P).length ≤ t := Nat.le_of_not_lt ht
      rw [List.getD_eq_getElem?_getD, List.getElem?_eq_none ht]; rfl
    rw [e]
    exact key_ok (by decide) (by decide) (by decide)
theorem ksP_lt {P : Pl} (hO : PlO P) (t : Nat) : ksP P t < 2 ^ 31 := by
  rcases ksP_ok hO t with q | q
  · rw [q]; decide
  · omega
theorem ltP_is {P : Pl} (hO : PlO P) (a b : Nat) : ltP P a b = true ↔ ksP P a < ksP P b := by
  have h1 := ksP_lt hO a
  have h2 := ksP_lt hO b
  have e : ltP P a b = decide (nI (ksP P a) < nI (ksP P b)) := rfl
  rw [e, decide_eq_true_iff]
  exact nI_ltI h1 h2
theorem Okx_mono {lo hi lo' hi' x : Nat} (h : Okx lo hi x) (h1 : lo' ≤ lo) (h2 : hi ≤ hi') : Okx lo' hi' x := by
  rcases h with q | q
  · exact Or.inl q
  · exact Or.inr ⟨by omega, by omega⟩
def okT (s : Sta) : Prop := OKTs (ksP (sP s)) (sA s).1 ∧ (∀ A ∈ sU s, OKTs (ksP (sP s)) A.1) ∧ ∀ m A sl, sM s m = some (A, sl) → OKTs (ksP (sP s)) A.1
theorem okT_rem {s : Sta} (T : okT s) : okT (remS s) := by
  refine ⟨T.1, fun A hA => ?_, T.2.2⟩
  rcases List.mem_cons.mp (List.mem_of_mem_take hA) with q | q
  · rw [q]; exact T.1
  · exact T.2.1 A q
theorem okT_A {s : Sta} {A : AF} (T : okT s) (h : OKTs (ksP (sP s)) A.1) : okT (stA s A) := ⟨h, T.2.1, T.2.2⟩
theorem okT_put {s : Sta} {w : Nat} {x y : Int32} (ok : okSta s w) (hw : w + 1 ≤ 1000) (T : okT s) : okT (nPut s x y).2 := by
  have n3 := ok.n3
  unfold nPut
  by_cases c1 : inB (pN (sP s)) x = true
  · rw [if_pos c1]
    by_cases c2 : inB (pHn (sP s)) y = true
    · rw [if_pos c2]
      by_cases c3 : (sA s).2.1 (ix x) = -1
      · rw [if_pos c3]
        rcases inB_or (n := pN (sP s)) x (by omega) with c | ⟨a, ha, e, c, cx⟩
        · rw [c] at c1; cases c1
        rcases inB_or (n := pHn (sP s)) y (by omega) with c' | ⟨b, hb, e', c', cy⟩
        · rw [c'] at c2; cases c2
        refine okT_A (okT_rem T) ?_
        rw [cx] at c3
        rw [cx, cy]
        exact putA_okt (ltP_is ok.pl) ok.a.1 (by omega) (by omega) c3 hw (tvP_pos _) T.1
      · rw [if_neg c3]; exact T
    · rw [if_neg c2]; exact T
  · rw [if_neg c1]; exact T
theorem okT_take {s : Sta} {w : Nat} {x : Int32} (ok : okSta s w) (T : okT s) : okT (nTake s x).2 := by
  have n3 := ok.n3
  unfold nTake
  by_cases c1 : inB (pHn (sP s)) x = true
  · rw [if_pos c1]
    rcases inB_or (n := pHn (sP s)) x (by omega) with c | ⟨a, ha, e, c, cx⟩
    · rw [c] at c1; cases c1
    rw [cx]
    cases e : takeA (ltP (sP s)) (sA s) a with
    | none => exact T
    | some p => exact okT_A (okT_rem T) (takeA_okt (t := p.1) (A' := p.2) (ltP_is ok.pl) (by omega) T.1 e)
  · rw [if_neg c1]; exact T
theorem okT_meld {s : Sta} {w : Nat} {x y : Int32} (ok : okSta s w) (hw : w ≤ 1000) (T : okT s) : okT (nMeld s x y).2 := by
  have n3 := ok.n3
  unfold nMeld
  by_cases c1 : inB (pHn (sP s)) x = true
  · rw [if_pos c1]
    by_cases c2 : inB (pHn (sP s)) y = true
    · rw [if_pos c2]
      by_cases c3 : x = y
      · rw [if_pos c3]; exact T
      · rw [if_neg c3]
        rcases inB_or (n := pHn (sP s)) x (by omega) with c | ⟨a, ha, e, c, cx⟩
        · rw [c] at c1; cases c1
        rcases inB_or (n := pHn (sP s)) y (by omega) with c' | ⟨b, hb, e', c', cy⟩
        · rw [c'] at c2; cases c2
        refine okT_A (okT_rem T) ?_
        rw [cx, cy]
        exact meldF_okt (ltP_is ok.pl) ok.a.1 (by omega) (by omega) (fun q => c3 (by rw [e, e', q])) hw (tvP_pos _) T.1 24 (Nat.le_refl _)
    · rw [if_neg c2]; exact T
  · rw [if_neg c1]; exact T
theorem okT_shelve {s : Sta} {w : Nat} {x y : Int32} (ok : okSta s w) (T : okT s) : okT (nShelve s x y).2 := by
  have n3 := ok.n3
  unfold nShelve
  by_cases c1 : inB (pHn (sP s)) x = true
  · rw [if_pos c1]
    by_cases c2 : inB (pSs (sP s)) y = true
    · rw [if_pos c2]
      by_cases c3 : takeA (ltP (sP s)) (sA s) (ix x) = none
      · rw [if_pos c3]; exact T
      · rw [if_neg c3]
        rcases inB_or (n := pHn (sP s)) x (by omega) with c | ⟨a, ha, e, c, cx⟩
        · rw [c] at c1; cases c1
        refine okT_A (okT_rem T) ?_
        rw [cx]
        exact shelveA_okt (ltP_is ok.pl) (by omega) T.1
    · rw [if_neg c2]; exact T
  · rw [if_neg c1]; exact T
theorem okT_undo {s : Sta} (T : okT s) : okT (nUndo s).2 := by
  obtain ⟨k1, k2, k3⟩ := id T
  unfold nUndo
  cases e : sU s with
  | nil => exact T
  | cons A r =>
    rw [e] at k2
    exact ⟨k2 A List.mem_cons_self, fun B hB => k2 B (List.mem_cons_of_mem _ hB), k3⟩
theorem okT_see {s : Sta} {x y z : Int32} (T : okT s) : okT (nSee s x y z).2 := by
  unfold nSee
  split
  · split
    · split
      · exact T
      · exact T
    · exact T
  · exact T
theorem okT_mark {s : Sta} {x y : Int32} (T : okT s) : okT (nMark s x y).2 := by
  obtain ⟨k1, k2, k3⟩ := id T
  unfold nMark
  by_cases c1 : inB 2 x = true
  · rw [if_pos c1]
    by_cases c2 : y = 0
    · rw [if_pos c2]
      refine ⟨k1, k2, fun m A sl e => ?_⟩
      have e : up1 (sM s) (ix x) (some (sA s, sS s)) m = some (A, sl) := e
      by_cases q : m = ix x
      · rw [q, up1_at] at e
        cases e
        exact k1
      · rw [up1_ne _ _ q] at e
        exact k3 m A sl e
    · rw [if_neg c2]
      cases e : sM s (ix x) with
      | none => exact T
      | some p => exact ⟨k3 (ix x) p.1 p.2 e, fun A hA => (by cases hA), k3⟩
  · rw [if_neg c1]; exact T
theorem okT_q {P : Pl} (hO : PlO P) : okT (qSta P) := by
  have n20 : pN P ≤ 20 := hO.2.2.2.2.2.1
  exact ⟨tellF_okt (ltP_is hO) n20 (tvP_pos _) (pN P) (Nat.le_refl _) (fun t ht => hmP_lt hO ht), fun A hA => (by cases hA), fun m A sl e => (by cases e)⟩
theorem okT_queue {s : Sta} (T : okT s) (hG : (rdQ s).1.1 = 0 → PlG (rdQ s).2 ∧ PlN (rdQ s).2) : okT (nQueue s).2 := by
  unfold nQueue nQueueR
  generalize rdQ s = R at *
  by_cases c : R.1.1 = 0
  · rw [if_pos c]; exact okT_q (hG c).1.1
  · rw [if_neg c]; exact T
theorem okT_work {s : Sta} (T : okT s) : okT (nWork s).2 := by
  unfold nWork nWorkR
  generalize rdW s = R at *
  split
  · exact T
  · exact T
theorem okT_feed {s : Sta} {a b c : Int64} (T : okT s) : okT (nFeed s a b c).2 := T
def aLift (s : Sta) (x : Int32) : Int32 := if inB (pN (sP s)) x = true then (match ndA (sA s).1 (ix x) with
  | none => -1
  | some k => nI (subS (ksP (sP s) (n_ld k)) (ksP (sP s) (ix x)))) else -1
section LIF
variable {G : pm_G} {d : Nat} {h : pm_H} {s : Sta} {w : Nat}
theorem c_lift {x : Int32} {Q : Int32 → pm_H → Prop} (i : InvC h s) (ok : okSta s w) (T : okT s) (k : Q (aLift s x) h) : ci G (d + 3) m_X11_lift [.ref 0, .int x] h Q := by
  unfold aLift at k
  have n3 := ok.n3
  obtain ⟨o1, o0, o_1, o_2, o3, o4, o5, o6, -⟩ := i.la.own
  have hF : Fa h 59 := fa_of i.la (by decide)
  refine ci_wp rfl (Nat.le_of_ble_eq_true rfl) rfl (x_X11_lift ⟨o1, c_isItem (d := d + 1) i ok.pl ?_⟩)
  rcases inB_or (n := pN (sP s)) x (by omega) with c | ⟨a, ha, rfl, c, cx⟩
  · rw [c] at k ⊢; rw [if_neg (by decide)] at k; rw [if_pos b0f]; exact ⟨_, rfl, k⟩
  · rw [c] at k ⊢; rw [if_pos rfl, cx] at k; rw [if_neg b1t, o6]
    have a20 : a < 20 := by omega
    refine ⟨o1, hF.1, f_at12 (d := d + 1) hF ?_⟩
    rw [rd_in a20 (by decide)]
    cases e : ndA (sA s).1 a with
    | none =>
      rw [e] at k
      rw [i.cf.1.2.2.2 a a20 (by simpa [tr_its] using ndA_none e), if_pos rfl]
      exact ⟨_, rfl, k⟩
    | some kk =>
      rw [e] at k
      have k : Q (nI (subS (ksP (sP s) (n_ld kk)) (ksP (sP s) a))) h := k
      obtain ⟨e1, e2⟩ := ndA_some e
      obtain ⟨q, hq, hk⟩ := ands_mem.mp e1
      have hN := (i.cf.1.1 _ hq).1
      obtain ⟨p', x', y', nn⟩ := hN.nd hk
      have ld := ok.a.lead e1
      have le := (T.1 q hq).nd kk hk a e2
      obtain ⟨v1, v2⟩ := fsub_s (ksP_ok ok.pl (n_ld kk)) (ksP_ok ok.pl a) (by decide) (by decide) le
      rw [(nn.2.2.2.2.2.2.2.2.1 a e2).1, if_neg (nI_nm1 (show kk.1 < 2 ^ 31 by have := nn.1; omega)), o6]
      refine ⟨o1, hF.1, f_at3 (d := d + 1) hF ?_⟩
      rw [rd_in nn.1 (by decide), nn.2.2.2.1 (List.ne_nil_of_mem e2), o_1]
      refine ⟨i.la.pln.1, s_keyOf3 (d := d + 1) i ok ld ⟨o1, ?_⟩⟩
      rw [o_1]
      refine ⟨i.la.pln.1, s_keyOf3 (d := d + 1) i ok ha ?_⟩
      rw [v1]
      exact ⟨v2.num (by decide), s_bitsOf (d := d + 1) (Okx_mono v2 (by decide) (by decide)) ⟨_, rfl, k⟩⟩
theorem q_lift {x : Int32} {Q : Int32 → pm_H → Prop} (i : InvR h s) (ok : okSta s w) (hw : w ≤ 1000) (T : okT s) (k : ∀ h', InvR h' s → FrB h h' → Q (aLift s x) h') : ci G (d + 4) m_X12_lift [.ref 446, .int x] h Q := by
  have n3 := ok.n3
  refine ci_wp rfl (Nat.le_of_ble_eq_true rfl) rfl (x_X12_lift ⟨i.la.md.1, ?_⟩)
  rintro h1 e1
  have i1 : InvR h1 s := by rw [e1]; exact i.th
  have f1 : FrB h h1 := by rw [e1]; exact FrB.si (by decide)
  have k := k h1 i1 f1
  clear e1
  unfold aLift at k
  refine q_isItem (d := d + 1) i1 ok.pl ?_
  rcases inB_or (n := pN (sP s)) x (by omega) with c | ⟨t, ht, rfl, c, cx⟩
  · rw [c] at k ⊢; rw [if_neg (by decide)] at k; rw [if_pos b0f]; exact ⟨_, rfl, k⟩
  · rw [c] at k ⊢; rw [if_pos rfl, cx] at k; rw [if_neg b1t]
    have t20 : t < 20 := by omega
    refine ⟨i1.la.md.1, q_nodeWith (d := d) i1 ok hw t20 (fun e => ?_) (fun kk x' y' e rn => ?_)⟩
    · rw [e] at k
      rw [if_neg (show ¬ (0 : Int32) ≤ -1 by decide)]
      exact ⟨_, rfl, k⟩
    · rw [e] at k
      have k : Q (nI (subS (ksP (sP s) (n_ld kk)) (ksP (sP s) t))) h1 := k
      obtain ⟨e1, e2⟩ := ndA_some e
      obtain ⟨q, hq, hk⟩ := ands_mem.mp e1
      have ld := ok.a.lead e1
      have le := (T.1 q hq).nd kk hk t e2
      have k24 := rn.1
      rw [if_pos (show (0 : Int32) ≤ nI kk.1 from (nI_leI (a := 0) (by decide) (by omega)).mpr (Nat.zero_le _))]
      have t1 := r_nodeOf (G := G) (d := d + 2) (h := h1) (b := 0) (n := kk.1) (w := 2) (S := gi h1 458) (Q := fun r6 h7 => h7.1[446]? = some (0, 11) ∧ ∃ n8 : Nat, h7.1[gp h7 446 21]? = some (1, n8) ∧ (vp_in (nI t) n8) ∧ ci G (d + 3) m_X12_lessens [.int r6, .int (gi h7 (gp h7 446 21) (nI t : Int32).toNatClampNeg)] h7 fun r9 h10 => ∃ r, some (Value.int r9) = some (.int r) ∧ Q r h10) i1.la.md (by omega) (by
        rw [s8_self]
        have g21 : gp h1 446 21 = 460 := i1.la.mk.2.1
        refine ⟨i1.la.md.1, 20, by rw [g21]; exact i1.la.mk.2.2.1, vp_nI t20 (by decide), ?_⟩
        rw [g21, cl_nI (show t < 2 ^ 31 by omega), rn.2.2.2.1 (List.ne_nil_of_mem e2), i1.ky _ ld, i1.ky _ ht]
        exact r_lessens (d := d) (ksP_ok ok.pl (n_ld kk)) (ksP_ok ok.pl t) (by decide) (by decide) (by decide) le ⟨_, rfl, k⟩)
      rw [s8_self] at t1
      exact ⟨i1.la.md.1, t1⟩
end LIF
