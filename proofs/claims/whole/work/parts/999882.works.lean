/-! WORKS BY HAND: what comes of them; the class -/
abbrev remS (s : Sta) : Sta := stU s ((sA s :: sU s).take 8)
abbrev stS (s : Sta) (sl : List Sn) : Sta := (s.1, s.2.1, s.2.2.1, s.2.2.2.1, s.2.2.2.2.1, sl, s.2.2.2.2.2.2)
abbrev stM' (s : Sta) (mk : Nat → Option (AF × List Sn)) : Sta := (s.1, s.2.1, s.2.2.1, s.2.2.2.1, s.2.2.2.2.1, s.2.2.2.2.2.1, s.2.2.2.2.2.2.1, mk)
def nPut (s : Sta) (x y : Int32) : Int32 × Sta := if inB (pN (sP s)) x = true then (if inB (pHn (sP s)) y = true then (if (sA s).2.1 (ix x) = -1 then (1, stA (remS s) (putA (ltP (sP s)) (tvP (sP s)) (sA s) (ix x) (ix y))) else (0, s)) else (0, s)) else (0, s)
def nTake (s : Sta) (x : Int32) : Int32 × Sta := if inB (pHn (sP s)) x = true then (match takeA (ltP (sP s)) (sA s) (ix x) with
  | none => (-1, s)
  | some (t, A') => (nI t, stA (remS s) A')) else (-1, s)
def nMeld (s : Sta) (x y : Int32) : Int32 × Sta := if inB (pHn (sP s)) x = true then (if inB (pHn (sP s)) y = true then (if x = y then (0, s) else (1, stA (remS s) (meldA (ltP (sP s)) (tvP (sP s)) (sA s) (ix x) (ix y)))) else (0, s)) else (0, s)
abbrev shlA (s : Sta) (a x : Nat) : Int32 × AF := shelveA (ltP (sP s)) (kdP (sP s)) (skP (sP s)) (sA s) a x
def nShelve (s : Sta) (x y : Int32) : Int32 × Sta := if inB (pHn (sP s)) x = true then (if inB (pSs (sP s)) y = true then (if takeA (ltP (sP s)) (sA s) (ix x) = none then (-1, s) else ((shlA s (ix x) (ix y)).1, stA (remS s) (shlA s (ix x) (ix y)).2)) else (-1, s)) else (-1, s)
def nUndo (s : Sta) : Int32 × Sta := match sU s with
  | [] => (0, s)
  | A :: r => (1, stU (stA s A) r)
def nSee (s : Sta) (x y z : Int32) : Int32 × Sta := if inB 10 x = true then (if inB 4 y = true then (if (sS s).length = 8 then (0, s) else (1, stS s (sS s ++ [(ix x, ix y, !decide (z = 0))]))) else (0, s)) else (0, s)
def nMark (s : Sta) (x y : Int32) : Int32 × Sta := if inB 2 x = true then (if y = 0 then (1, stM' s (up1 (sM s) (ix x) (some (sA s, sS s)))) else (match sM s (ix x) with
  | none => (0, s)
  | some (A, sl) => (1, stU (stS (stA s A) sl) []))) else (0, s)
theorem okSta_rem {s : Sta} {w : Nat} (ok : okSta s w) : okSta (remS s) w := by
  obtain ⟨k1, k2, k3, k4, k5, k6, k7, k8, k9⟩ := ok
  refine ⟨k1, k2, k3, k4, k5, fun A hA => ?_, by show ((sA s :: sU s).take 8).length ≤ 8; rw [List.length_take]; omega, k8, k9⟩
  rcases List.mem_cons.mp (List.mem_of_mem_take hA) with z | z
  · rw [z]; exact k5
  · exact k6 A z
theorem okSta_A {s : Sta} {w : Nat} {A : AF} (ok : okSta s w) (h : okN (pN (sP s)) A w) : okSta (stA s A) w := ⟨ok.1, ok.2.1, ok.2.2.1, ok.2.2.2.1, h, ok.2.2.2.2.2⟩
theorem okSta_put {s : Sta} {w : Nat} {x y : Int32} (ok : okSta s w) (hw : w + 1 ≤ 1000) : okSta (nPut s x y).2 (w + 1) := by
  have n3 := ok.n3
  have up := ok.mono (Nat.le_succ w)
  unfold nPut
  by_cases c1 : inB (pN (sP s)) x = true
  · rw [if_pos c1]
    by_cases c2 : inB (pHn (sP s)) y = true
    · rw [if_pos c2]
      by_cases c3 : (sA s).2.1 (ix x) = -1
      · rw [if_pos c3]
        rcases inB_or (n := pN (sP s)) x (by omega) with c | ⟨a, ha, e, c, cx⟩
        · rw [c] at c1; cases c1
        rcases inB_or (n := pHn (sP s)) y (by omega) with c' | ⟨b, hb, e', c', cy⟩
        · rw [c'] at c2; cases c2
        refine okSta_A (okSta_rem up) ?_
        rw [cx] at c3
        rw [cx, cy]
        exact okN_put ok.a n3.2.2 ha (by omega) c3 hw (tvP_pos _)
      · rw [if_neg c3]; exact up
    · rw [if_neg c2]; exact up
  · rw [if_neg c1]; exact up
theorem okSta_take {s : Sta} {w : Nat} {x : Int32} (ok : okSta s w) (hw : w + 1 ≤ 1000) : okSta (nTake s x).2 (w + 1) := by
  have n3 := ok.n3
  have up := ok.mono (Nat.le_succ w)
  unfold nTake
  by_cases c1 : inB (pHn (sP s)) x = true
  · rw [if_pos c1]
    rcases inB_or (n := pHn (sP s)) x (by omega) with c | ⟨a, ha, e, c, cx⟩
    · rw [c] at c1; cases c1
    rw [cx]
    cases e : takeA (ltP (sP s)) (sA s) a with
    | none => exact up
    | some p => exact okSta_A (okSta_rem up) ((okN_take ok.a (by omega) (by omega) (t := p.1) (A' := p.2) e).1.mono (Nat.le_succ w))
  · rw [if_neg c1]; exact up
theorem okSta_meld {s : Sta} {w : Nat} {x y : Int32} (ok : okSta s w) (hw : w + 1 ≤ 1000) : okSta (nMeld s x y).2 (w + 1) := by
  have n3 := ok.n3
  have up := ok.mono (Nat.le_succ w)
  unfold nMeld
  by_cases c1 : inB (pHn (sP s)) x = true
  · rw [if_pos c1]
    by_cases c2 : inB (pHn (sP s)) y = true
    · rw [if_pos c2]
      by_cases c3 : x = y
      · rw [if_pos c3]; exact up
      · rw [if_neg c3]
        rcases inB_or (n := pHn (sP s)) x (by omega) with c | ⟨a, ha, e, c, cx⟩
        · rw [c] at c1; cases c1
        rcases inB_or (n := pHn (sP s)) y (by omega) with c' | ⟨b, hb, e', c', cy⟩
        · rw [c'] at c2; cases c2
        refine okSta_A (okSta_rem up) ?_
        rw [cx, cy]
        exact (okN_meld ok.a (by omega) (by omega) (fun q => c3 (by rw [e, e', q])) (by omega) (tvP_pos _)).mono (Nat.le_succ w)
    · rw [if_neg c2]; exact up
  · rw [if_neg c1]; exact up
theorem okSta_shelve {s : Sta} {w : Nat} {x y : Int32} (ok : okSta s w) (hw : w + 1 ≤ 1000) : okSta (nShelve s x y).2 (w + 1) := by
  have n3 := ok.n3
  have up := ok.mono (Nat.le_succ w)
  unfold nShelve
  by_cases c1 : inB (pHn (sP s)) x = true
  · rw [if_pos c1]
    by_cases c2 : inB (pSs (sP s)) y = true
    · rw [if_pos c2]
      by_cases c3 : takeA (ltP (sP s)) (sA s) (ix x) = none
      · rw [if_pos c3]; exact up
      · rw [if_neg c3]
        rcases inB_or (n := pHn (sP s)) x (by omega) with c | ⟨a, ha, e, c, cx⟩
        · rw [c] at c1; cases c1
        rcases inB_or (n := pSs (sP s)) y (by omega) with c' | ⟨b, hb, e', c', cy⟩
        · rw [c'] at c2; cases c2
        refine okSta_A (okSta_rem up) ?_
        rw [cx, cy]
        exact (okN_shelve ok.a (by omega) (by omega) (by omega)).mono (Nat.le_succ w)
    · rw [if_neg c2]; exact up
  · rw [if_neg c1]; exact up
theorem okSta_undo {s : Sta} {w : Nat} (ok : okSta s w) : okSta (nUndo s).2 w := by
  obtain ⟨k1, k2, k3, k4, k5, k6, k7, k8, k9⟩ := ok
  unfold nUndo
  cases e : sU s with
  | nil => exact ⟨k1, k2, k3, k4, k5, k6, k7, k8, k9⟩
  | cons A r =>
    rw [e] at k6 k7
    rw [List.length_cons] at k7
    exact ⟨k1, k2, k3, k4, k6 A List.mem_cons_self, fun B hB => k6 B (List.mem_cons_of_mem _ hB), by show r.length ≤ 8; omega, k8, k9⟩
theorem okSta_see {s : Sta} {w : Nat} {x y z : Int32} (ok : okSta s w) : okSta (nSee s x y z).2 w := by
  have ok' := ok
  obtain ⟨k1, k2, k3, k4, k5, k6, k7, k8, k9⟩ := ok
  unfold nSee
  by_cases c1 : inB 10 x = true
  · rw [if_pos c1]
    by_cases c2 : inB 4 y = true
    · rw [if_pos c2]
      by_cases c3 : (sS s).length = 8
      · rw [if_pos c3]; exact ok'
      · rw [if_neg c3]
        rcases inB_or (n := 10) x (by decide) with c | ⟨a, ha, e, c, cx⟩
        · rw [c] at c1; cases c1
        rcases inB_or (n := 4) y (by decide) with c' | ⟨b, hb, e', c', cy⟩
        · rw [c'] at c2; cases c2
        refine ⟨k1, k2, k3, k4, k5, k6, k7, ⟨fun p hp => ?_, ?_⟩, k9⟩
        · rcases List.mem_append.mp hp with q | q
          · exact k8.1 p q
          · rw [List.mem_singleton.mp q, cx, cy]; exact ⟨ha, hb⟩
        · show (sS s ++ [_]).length ≤ 8
          rw [List.length_append, List.length_singleton]
          have := k8.2
          omega
    · rw [if_neg c2]; exact ok'
  · rw [if_neg c1]; exact ok'
theorem okSta_mark {s : Sta} {w : Nat} {x y : Int32} (ok : okSta s w) : okSta (nMark s x y).2 w := by
  have ok' := ok
  obtain ⟨k1, k2, k3, k4, k5, k6, k7, k8, k9⟩ := ok
  unfold nMark
  by_cases c1 : inB 2 x = true
  · rw [if_pos c1]
    by_cases c2 : y = 0
    · rw [if_pos c2]
      refine ⟨k1, k2, k3, k4, k5, k6, k7, k8, fun m A sl e => ?_⟩
      have e : up1 (sM s) (ix x) (some (sA s, sS s)) m = some (A, sl) := e
      by_cases q : m = ix x
      · rw [q, up1_at] at e
        cases e
        exact ⟨k5, k8⟩
      · rw [up1_ne _ _ q] at e
        exact k9 m A sl e
    · rw [if_neg c2]
      cases e : sM s (ix x) with
      | none => exact ok'
      | some p =>
        obtain ⟨a, b⟩ := k9 (ix x) p.1 p.2 e
        exact ⟨k1, k2, k3, k4, a, fun A hA => (by cases hA), Nat.zero_le _, b, k9⟩
  · rw [if_neg c1]; exact ok'
theorem takeA_0 {lt : Nat → Nat → Bool} {A : AF} {w a : Nat} (h : okA A w) (ha : a < 3) (hw : w ≤ 1000) : takeA lt A a = none ↔ cnt (fun t => decide (A.2.1 t = nI a)) 20 = 0 := by
  constructor
  · intro e
    exact cnt_0 (takeA_none h ha e)
  · intro e
    cases q : takeA lt A a with
    | none => rfl
    | some p =>
      obtain ⟨-, a2, a3, -⟩ := takeA_some (t := p.1) (A' := p.2) h ha hw q
      have : 0 < cnt (inHp A a) 20 := cnt_pos a2 a3
      have e : cnt (inHp A a) 20 = 0 := e
      omega
theorem shelveA_k {N w a x : Nat} {A : AF} {lt : Nat → Nat → Bool} {kd kd' skd skd' : Nat → Int32} (h : okN N A w) (ha : a < 3) (hw : w ≤ 1000) (hk : ∀ t, t < N → kd t = kd' t) (hs : skd x = skd' x) : shelveA lt kd skd A a x = shelveA lt kd' skd' A a x := by
  unfold shelveA
  cases e : takeA lt A a with
  | none => rfl
  | some p =>
    have tN := (okN_take (t := p.1) (A' := p.2) h ha hw e).2
    simp only [hk _ tN, hs]
def cpP (M : Nat → Nat → Int32) (q q2 a b m : Nat) : Nat → Nat → Int32 := fun x j => if x = q ∧ a ≤ j ∧ j < a + m then M q2 (b + (j - a)) else M x j
section CWK
variable {G : pm_G} {d : Nat} {h : pm_H} {s : Sta} {w : Nat}
theorem row_cpart {r q n r2 q2 n2 a b m : Nat} {Q : pm_H → Prop} (hr : Ro h r q n) (hr2 : Ro h r2 q2 n2) (ha : a + m ≤ n) (hb : b + m ≤ n2) (hq : q ≠ q2) (k : Q (sm h (cpP (gi h) q q2 a b m))) : cv G (d + 2) m_X6_copyPart [.ref r, .int (nI a), .ref r2, .int (nI b), .int (nI m)] h Q := by
  have n31 := hr.2.2.2
  have n32 := hr2.2.2.2
  refine cv_wp rfl (Nat.le_of_ble_eq_true rfl) rfl (x_X6_copyPart ?_)
  have key := up_to (P := fun i => Wp G (m_X6_copyPart, d + 2, 0, 0, fun v h1 => v = none ∧ Q h1) (0, 0) 3 [.ref r, .int (nI a), .ref r2, .int (nI b), .int (nI m), .int (nI i)] [] (sm h (cpP (gi h) q q2 a b i))) m (fun i hi ih => ?_) ?_
  · have e : cpP (gi h) q q2 a b 0 = gi h := by
      funext x j
      unfold cpP
      rw [if_neg (by omega)]
    rw [e] at key
    exact key
  · refine x_X6_copyPart_3 ?_
    rw [if_neg (show ¬ nI m ≤ nI i from nI_nlen hi (by omega)), nI_add, nI_add, nI_1]
    have hr2' : Ro (sm h (cpP (gi h) q q2 a b i)) r2 q2 n2 := hr2
    have hr' : Ro (sm h (cpP (gi h) q q2 a b i)) r q n := hr
    refine ⟨hr2.1, row_at (d := d) hr2' ?_⟩
    rw [rd_in (by omega) n32]
    refine ⟨hr.1, row_set (d := d) hr' ?_⟩
    rw [wr_in (by omega) n31]
    have e : pm_u (gi (sm h (cpP (gi h) q q2 a b i))) q (a + i) (gi (sm h (cpP (gi h) q q2 a b i)) q2 (b + i)) = cpP (gi h) q q2 a b (i + 1) := by
      funext x j
      show (if x = q then (if j = a + i then cpP (gi h) q q2 a b i q2 (b + i) else cpP (gi h) q q2 a b i x j) else cpP (gi h) q q2 a b i x j) = cpP (gi h) q q2 a b (i + 1) x j
      have e2 : cpP (gi h) q q2 a b i q2 (b + i) = gi h q2 (b + i) := by unfold cpP; rw [if_neg (fun z => hq z.1.symm)]
      rw [e2]
      unfold cpP
      by_cases c1 : x = q
      · rw [if_pos c1]
        by_cases c2 : j = a + i
        · rw [if_pos c2, if_pos ⟨c1, by omega, by omega⟩, c2, show a + i - a = i by omega]
        · rw [if_neg c2]
          by_cases c3 : a ≤ j ∧ j < a + i
          · rw [if_pos ⟨c1, c3⟩, if_pos ⟨c1, c3.1, by omega⟩]
          · rw [if_neg (fun z => c3 z.2), if_neg (fun z => c3 ⟨z.2.1, by omega⟩)]
      · rw [if_neg c1, if_neg (fun z => c1 z.1), if_neg (fun z => c1 z.1)]
    show Wp G _ _ 3 _ _ (sm (sm h (cpP (gi h) q q2 a b i)) (pm_u (gi (sm h (cpP (gi h) q q2 a b i))) q (a + i) (gi (sm h (cpP (gi h) q q2 a b i)) q2 (b + i))))
    rw [e]
    exact ih
  · refine x_X6_copyPart_3 ?_
    rw [if_pos (show nI m ≤ nI m from Int32.le_refl _)]
    exact ⟨rfl, k⟩
theorem c_put {x y : Int32} {Q : Int32 → pm_H → Prop} (i : InvC h s) (ok : okSta s w) (hw : w + 1 ≤ 1000) (k : ∀ h', InvC h' (nPut s x y).2 → FrA h h' → Q (nPut s x y).1 h') : ci G (d + 7) m_X11_put [.ref 0, .int x, .int y] h Q := by
  have n3 := ok.n3
  unfold nPut at k
  obtain ⟨o1, o0, o_1, o_2, o3, o4, o5, o6, -⟩ := i.la.own
  have hF : Fa h 59 := fa_of i.la (by decide)
  refine ci_wp rfl (Nat.le_of_ble_eq_true rfl) rfl (x_X11_put ⟨o1, c_isItem (d := d + 5) i ok.pl ?_⟩)
  rcases inB_or (n := pN (sP s)) x (by omega) with c | ⟨t, ht, rfl, c, cx⟩
  · rw [c] at k ⊢; rw [if_neg (by decide)] at k; rw [if_pos b0f]; exact ⟨_, rfl, k h i FrA.rfl'⟩
  rw [c] at k ⊢; rw [if_pos rfl, cx] at k; rw [if_neg b1t]
  refine ⟨o1, c_isHeap (d := d + 5) i ok.pl ?_⟩
  rcases inB_or (n := pHn (sP s)) y (by omega) with c' | ⟨a, ha, rfl, c', cy⟩
  · rw [c'] at k ⊢; rw [if_neg (by decide)] at k; rw [if_pos b0f]; exact ⟨_, rfl, k h i FrA.rfl'⟩
  rw [c'] at k ⊢; rw [if_pos rfl, cy] at k; rw [if_neg b1t, o6]
  have t20 : t < 20 := by omega
  refine ⟨o1, hF.1, f_at13 (d := d + 5) hF ?_⟩
  rw [rd_in t20 (by decide), (i.cf.2 t t20).1]
  by_cases c1 : (sA s).2.1 t = -1
  · rw [if_pos c1] at k ⊢
    refine ⟨o1, c_remember (d := d + 3) i ok.u.2 (fun h2 i2 f2 _ => ?_)⟩
    have hF2 : Fa h2 59 := fa_of i2.la (by decide)
    obtain ⟨o1, o0, o_1, o_2, o3, o4, o5, o6, -⟩ := i2.la.own
    rw [o6]
    refine ⟨o1, hF2.1, s_putIn (d := d) (w := w) hF2 i2.la.lw (by decide) (by omega) t20 hw (tvP_pos _) (i2.tv ok.pl) ok.a.1 i2.cf (fun z => absurd c1 z) (fun _ M' hC hX => ?_)⟩
    rw [(putA_agr (i2.pl.agr ok.pl).1 ht (by omega) ok.a.lb).1] at hC
    exact ⟨Or.inr rfl, _, rfl, k _ (i2.setA hX hC) (f2.trans (FrA.fx (by decide) hX))⟩
  · rw [if_neg c1] at k ⊢
    exact ⟨_, rfl, k h i FrA.rfl'⟩
theorem c_take {x : Int32} {Q : Int32 → pm_H → Prop} (i : InvC h s) (ok : okSta s w) (hw : w ≤ 1000) (k : ∀ h', InvC h' (nTake s x).2 → FrA h h' → Q (nTake s x).1 h') : ci G (d + 5) m_X11_take [.ref 0, .int x] h Q := by
  have n3 := ok.n3
  unfold nTake at k
  obtain ⟨o1, o0, o_1, o_2, o3, o4, o5, o6, -⟩ := i.la.own
  have hF : Fa h 59 := fa_of i.la (by decide)
  refine ci_wp rfl (Nat.le_of_ble_eq_true rfl) rfl (x_X11_take ⟨o1, c_isHeap (d := d + 3) i ok.pl ?_⟩)
  rcases inB_or (n := pHn (sP s)) x (by omega) with c | ⟨a, ha, rfl, c, cx⟩
  · rw [c] at k ⊢; rw [if_neg (by decide)] at k; rw [if_pos b0f]; exact ⟨_, rfl, k h i FrA.rfl'⟩
  rw [c] at k ⊢; rw [if_pos rfl, cx] at k; rw [if_neg b1t, o6]
  have a3 : a < 3 := by omega
  refine ⟨o1, hF.1, s_itemsIn (d := d + 2) hF ?_⟩
  rw [hcount_C i]
  have t0 := takeA_0 (lt := ltP (sP s)) ok.a.1 a3 hw
  have cl := cnt_le (fun u => decide ((sA s).2.1 u = nI a)) 20
  cases e : takeA (ltP (sP s)) (sA s) a with
  | none =>
    rw [e] at k
    rw [t0.mp e, if_pos (show nI 0 = 0 from rfl)]
    exact ⟨_, rfl, k h i FrA.rfl'⟩
  | some p =>
    rw [e] at k
    rw [if_neg (nI_neq0 (fun q => by rw [t0.mpr q] at e; cases e) (by omega))]
    refine ⟨o1, c_remember (d := d + 1) i ok.u.2 (fun h2 i2 f2 _ => ?_)⟩
    have hF2 : Fa h2 59 := fa_of i2.la (by decide)
    obtain ⟨o1, o0, o_1, o_2, o3, o4, o5, o6, -⟩ := i2.la.own
    rw [o6]
    have ea : takeA (kLt (gf h2 16)) (sA s) a = some p := by rw [(takeA_agr (i2.pl.agr ok.pl).1 a3 ok.a.lb).1]; exact e
    refine ⟨o1, hF2.1, s_takeFrom (d := d) (w := w) hF2 i2.la.lw.1 a3 hw ok.a.1 i2.cf (fun z => ?_) (fun t A' z M' hC hX => ?_)⟩
    · have z : takeA (kLt (gf h2 16)) (sA s) a = none := z
      rw [ea] at z; cases z
    · have z : takeA (kLt (gf h2 16)) (sA s) a = some (t, A') := z
      rw [ea] at z
      cases z
      exact ⟨_, rfl, k _ (i2.setA hX hC) (f2.trans (FrA.fx (by decide) hX))⟩
theorem c_meld {x y : Int32} {Q : Int32 → pm_H → Prop} (i : InvC h s) (ok : okSta s w) (hw : w ≤ 1000) (k : ∀ h', InvC h' (nMeld s x y).2 → FrA h h' → Q (nMeld s x y).1 h') : ci G (d + 7) m_X11_meld [.ref 0, .int x, .int y] h Q := by
  have n3 := ok.n3
  unfold nMeld at k
  obtain ⟨o1, o0, o_1, o_2, o3, o4, o5, o6, -⟩ := i.la.own
  refine ci_wp rfl (Nat.le_of_ble_eq_true rfl) rfl (x_X11_meld ⟨o1, c_isHeap (d := d + 5) i ok.pl ?_⟩)
  rcases inB_or (n := pHn (sP s)) x (by omega) with c | ⟨a, ha, rfl, c, cx⟩
  · rw [c] at k ⊢; rw [if_neg (by decide)] at k; rw [if_pos b0f]; exact ⟨_, rfl, k h i FrA.rfl'⟩
  rw [c] at k ⊢; rw [if_pos rfl, cx] at k; rw [if_neg b1t]
  refine ⟨o1, c_isHeap (d := d + 5) i ok.pl ?_⟩
  rcases inB_or (n := pHn (sP s)) y (by omega) with c' | ⟨b, hb, rfl, c', cy⟩
  · rw [c'] at k ⊢; rw [if_neg (by decide)] at k; rw [if_pos b0f]; exact ⟨_, rfl, k h i FrA.rfl'⟩
  rw [c'] at k ⊢; rw [if_pos rfl, cy] at k; rw [if_neg b1t]
  by_cases c1 : nI a = nI b
  · rw [if_pos c1] at k ⊢; exact ⟨_, rfl, k h i FrA.rfl'⟩
  rw [if_neg c1] at k ⊢
  have ab : a ≠ b := fun q => c1 (by rw [q])
  refine ⟨o1, c_remember (d := d + 3) i ok.u.2 (fun h2 i2 f2 _ => ?_)⟩
  have hF2 : Fa h2 59 := fa_of i2.la (by decide)
  obtain ⟨o1, o0, o_1, o_2, o3, o4, o5, o6, -⟩ := i2.la.own
  rw [o6]
  refine ⟨o1, hF2.1, s_meldInto (d := d) (w := w) hF2 i2.la.lw (by decide) (by omega) (by omega) hw (tvP_pos _) (i2.tv ok.pl) ok.a.1 i2.cf (fun z => absurd z ab) (fun _ M' hC hX => ?_)⟩
  rw [(meldA_agr (i2.pl.agr ok.pl).1 (by omega) (by omega) ok.a.lb).1] at hC
  exact ⟨Or.inr rfl, _, rfl, k _ (i2.setA hX hC) (f2.trans (FrA.fx (by decide) hX))⟩
theorem c_shelve {x y : Int32} {Q : Int32 → pm_H → Prop} (i : InvC h s) (ok : okSta s w) (hw : w ≤ 1000) (k : ∀ h', InvC h' (nShelve s x y).2 → FrA h h' → Q (nShelve s x y).1 h') : ci G (d + 6) m_X11_shelve [.ref 0, .int x, .int y] h Q := by
  have n3 := ok.n3
  unfold nShelve at k
  obtain ⟨o1, o0, o_1, o_2, o3, o4, o5, o6, -⟩ := i.la.own
  have hF : Fa h 59 := fa_of i.la (by decide)
  refine ci_wp rfl (Nat.le_of_ble_eq_true rfl) rfl (x_X11_shelve ⟨o1, c_isHeap (d := d + 4) i ok.pl ?_⟩)
  rcases inB_or (n := pHn (sP s)) x (by omega) with c | ⟨a, ha, rfl, c, cx⟩
  · rw [c] at k ⊢; rw [if_neg (by decide)] at k; rw [if_pos b0f]; exact ⟨_, rfl, k h i FrA.rfl'⟩
  rw [c] at k ⊢; rw [if_pos rfl, cx] at k; rw [if_neg b1t]
  refine ⟨o1, c_isShelf (d := d + 4) i ok.pl ?_⟩
  rcases inB_or (n := pSs (sP s)) y (by omega) with c' | ⟨b, hb, rfl, c', cy⟩
  · rw [c'] at k ⊢; rw [if_neg (by decide)] at k; rw [if_pos b0f]; exact ⟨_, rfl, k h i FrA.rfl'⟩
  rw [c'] at k ⊢; rw [if_pos rfl, cy] at k; rw [if_neg b1t, o6]
  have a3 : a < 3 := by omega
  refine ⟨o1, hF.1, s_itemsIn (d := d + 3) hF ?_⟩
  rw [hcount_C i]
  have t0 := takeA_0 (lt := ltP (sP s)) ok.a.1 a3 hw
  have cl := cnt_le (fun u => decide ((sA s).2.1 u = nI a)) 20
  by_cases e : takeA (ltP (sP s)) (sA s) a = none
  · rw [if_pos e] at k
    rw [t0.mp e, if_pos (show nI 0 = 0 from rfl)]
    exact ⟨_, rfl, k h i FrA.rfl'⟩
  · rw [if_neg e] at k
    rw [if_neg (nI_neq0 (fun q => e (t0.mpr q)) (by omega))]
    refine ⟨o1, c_remember (d := d + 2) i ok.u.2 (fun h2 i2 f2 _ => ?_)⟩
    have hF2 : Fa h2 59 := fa_of i2.la (by decide)
    obtain ⟨o1, o0, o_1, o_2, o3, o4, o5, o6, -⟩ := i2.la.own
    rw [o6]
    refine ⟨o1, hF2.1, s_shelveFrom (d := d) (w := w) i2.la (by decide) a3 (by omega) hw ok.a.1 i2.cf (fun M' hC hX => ?_)⟩
    have ee : shelveA (kLt (gf h2 16)) (gi h2 13) (gi h2 11) (sA s) a b = shlA s a b := by
      rw [(shelveA_agr (i2.pl.agr ok.pl).1 a3 ok.a.lb).1]
      exact shelveA_k ok.a a3 hw (fun t ht => (i2.pl.2.2.2.2.1 t ht).1) (i2.pl.2.2.2.1 b hb)
    have hC : CF M' 59 (shelveA (kLt (gf h2 16)) (gi h2 13) (gi h2 11) (sA s) a b).2 := hC
    rw [ee] at hC
    have eg : (shelveA (kLt (gf h2 16)) (gi h2 13) (gi h2 11) (sA (remS s)) a b).1 = (shlA s a b).1 := by rw [show shelveA (kLt (gf h2 16)) (gi h2 13) (gi h2 11) (sA (remS s)) a b = shlA s a b from ee]
    rw [eg]
    exact ⟨_, rfl, k _ (i2.setA hX hC) (f2.trans (FrA.fx (by decide) hX))⟩
theorem c_undo {Q : Int32 → pm_H → Prop} (i : InvC h s) (ok : okSta s w) (k : ∀ h', InvC h' (nUndo s).2 → FrA h h' → Q (nUndo s).1 h') : ci G (d + 3) m_X11_undo [.ref 0] h Q := by
  have u8 := ok.u.2
  obtain ⟨i1, i2, i3, i4, i5, ⟨nw, p1, p2, p3, p4⟩, i7, i8, i9⟩ := i
  obtain ⟨o1, o0, o_1, o_2, o3, o4, o5, o6, o7, o8, o11, -⟩ := i1.own
  refine ci_wp rfl (Nat.le_of_ble_eq_true rfl) rfl (x_X11_undo ⟨o1, ?_⟩)
  rw [p3, o11, o6, p2]
  unfold nUndo at k
  cases e : sU s with
  | nil =>
    rw [e] at k p3 p4
    rw [if_pos (show nI ([] : List AF).length = 0 from rfl)]
    exact ⟨_, rfl, k h ⟨i1, i2, i3, i4, i5, ⟨nw, p1, p2, by rw [e]; exact p3, by rw [e]; exact p4⟩, i7, i8, i9⟩ FrA.rfl'⟩
  | cons A r =>
    rw [e] at k p3 p4 u8
    rw [List.length_cons] at u8 p3
    rw [if_neg (show ¬ nI (A :: r).length = 0 from nI_neq0 (by rw [List.length_cons]; omega) (by rw [List.length_cons]; omega))]
    have cA := p4 0 A rfl
    rw [show (nw + 8 - 0) % 8 = nw by omega] at cA
    refine c_pastAt (d := d + 1) i1 p1 ⟨(fa_of i1 (by decide)).1, s_copyFrom (d := d) (fa_of i1 (by decide)) (fa_of i1 (past_mem p1)) (by omega) cA (fun M1 c1 f1 => ⟨o1, ?_⟩)⟩
    have e0 : ∀ j, gi (sm h M1) 0 j = gi h 0 j := fun j => congrFun (f1 0 (fun q _ => by omega) (by decide)) j
    rintro _ rfl _ rfl
    rw [e0, p2, (mod8 nw (List.mem_range.mpr (by omega))).2, si_00, if_neg (show ¬ (13 : Nat) = 12 by decide), e0, p3, nI_m1]
    have hm : (nw + 7) % 8 < 8 := Nat.mod_lt _ (by decide)
    have ne : ∀ a, a ≠ 0 → (∀ q, 1 ≤ q ∧ q ≤ 15 → a ≠ 59 + 2 * q) → a ≠ 21 → gi (si (si (sm h M1) 0 12 (nI ((nw + 7) % 8))) 0 13 (nI r.length)) a = gi h a := by
      intro a a0 a1 a2
      rw [si_0n a0, si_0n a0]
      exact f1 a a1 a2
    have f0 : ∀ j, j ≠ 12 → j ≠ 13 → gi (si (si (sm h M1) 0 12 (nI ((nw + 7) % 8))) 0 13 (nI r.length)) 0 j = gi h 0 j := by
      intro j j1 j2
      rw [si_00, if_neg j2, si_00, if_neg j1]
      exact e0 j
    refine ⟨_, rfl, k _ ?_ ⟨rfl, fun a ha => ne a (by omega) (fun q _ => by omega) (by omega), fun _ _ => rfl, fun _ _ _ => rfl⟩⟩
    refine ⟨i1, i2.of (congrFun (ne 1 (by decide) (fun q _ => by omega) (by decide)) 1) (ne 2 (by decide) (fun q _ => by omega) (by decide)), i3.of (fun a _ _ => ne a (by omega) (fun q _ => by omega) (by omega)) (fun a _ _ => rfl) (fun a _ _ => rfl), i4.of (fun a _ => ne a (by omega) (fun q _ => by omega) (by omega)), ?_, ?_, i7.of (f0 9 (by decide) (by decide)) (ne 129 (by decide) (fun q _ => by omega) (by decide)), (f0 10 (by decide) (by decide)).trans i8, i9.of (fun a _ => ne a (by omega) (fun q _ => by omega) (by omega))⟩
    · exact c1.keep fun q _ => (si_0n (by omega)).trans (si_0n (by omega))
    · refine ⟨(nw + 7) % 8, hm, ?_, ?_, fun j B hB => ?_⟩
      · rw [si_00, if_neg (by decide), si_00, if_pos rfl]
      · rw [si_00, if_pos rfl]
      · have hB : r[j]? = some B := hB
        have c2 := p4 (j + 1) B (by rw [List.getElem?_cons_succ]; exact hB)
        have hj := (List.getElem?_eq_some_iff.mp hB).1
        rw [show ((nw + 7) % 8 + 8 - j) % 8 = (nw + 8 - (j + 1)) % 8 by omega]
        exact c2.keep fun q _ => ne _ (by omega) (fun q2 _ => by omega) (by omega)
theorem sn_val : ∀ a ∈ List.range 10, ∀ b ∈ List.range 4, (((nI a * 4) + nI b) * 2) + 0 = nI (snN (a, b, false)) ∧ (((nI a * 4) + nI b) * 2) + 1 = nI (snN (a, b, true)) := by decide +kernel
theorem c_see {x y z : Int32} {Q : Int32 → pm_H → Prop} (i : InvC h s) (ok : okSta s w) (k : ∀ h', InvC h' (nSee s x y z).2 → FrA h h' → Q (nSee s x y z).1 h') : ci G (d + 2) m_X11_see [.ref 0, .int x, .int y, .int z] h Q := by
  unfold nSee at k
  obtain ⟨o1, o0, o_1, o_2, o3, o4, o5, o6, o7, o8, -⟩ := i.la.own
  refine ci_wp rfl (Nat.le_of_ble_eq_true rfl) rfl (x_X11_see ?_)
  by_cases x0 : x < 0
  · rw [inB_no (Or.inl x0) (by decide), if_neg (by decide)] at k
    rw [if_pos x0]; exact ⟨_, rfl, k h i FrA.rfl'⟩
  rw [if_neg x0]
  by_cases x1 : 10 ≤ x
  · rw [inB_no (Or.inr x1) (by decide), if_neg (by decide)] at k
    rw [if_pos x1]; exact ⟨_, rfl, k h i FrA.rfl'⟩
  rw [if_neg x1]
  rw [inB_lt x0 x1 (by decide), if_pos rfl] at k
  by_cases y0 : y < 0
  · rw [inB_no (Or.inl y0) (by decide), if_neg (by decide)] at k
    rw [if_pos y0]; exact ⟨_, rfl, k h i FrA.rfl'⟩
  rw [if_neg y0]
  by_cases y1 : 4 ≤ y
  · rw [inB_no (Or.inr y1) (by decide), if_neg (by decide)] at k
    rw [if_pos y1]; exact ⟨_, rfl, k h i FrA.rfl'⟩
  rw [if_neg y1]
  rw [inB_lt y0 y1 (by decide), if_pos rfl] at k
  have s8' := ok.s.2
  rcases inB_or (n := 10) x (by decide) with c | ⟨a, ha, rfl, c, cx⟩
  · rw [inB_lt x0 x1 (by decide)] at c; cases c
  rcases inB_or (n := 4) y (by decide) with c' | ⟨b, hb, rfl, c', cy⟩
  · rw [inB_lt y0 y1 (by decide)] at c'; cases c'
  rw [cx, cy] at k
  rw [i.see.1, o8]
  refine ⟨o1, ?_⟩
  by_cases c8 : (sS s).length = 8
  · rw [if_pos c8] at k
    rw [if_neg (show ¬ nI (sS s).length < 8 by rw [i_lt, nI_toInt (by omega)]; have : (8 : Int32).toInt = 8 := (by decide); omega)]
    exact ⟨_, rfl, k h i FrA.rfl'⟩
  rw [if_neg c8] at k
  rw [if_pos (show nI (sS s).length < 8 by rw [i_lt, nI_toInt (by omega)]; have : (8 : Int32).toInt = 8 := (by decide); omega)]
  obtain ⟨r1, r2, r3, r4, r5, -⟩ := i.la.rws
  have fin : ∀ bz, (!decide (z = 0)) = bz → ∀ h6, h6 = si (sm h (wr (gi h) 129 8 (nI (sS s).length) (nI (snN (a, b, bz))))) 0 9 (gi (sm h (wr (gi h) 129 8 (nI (sS s).length) (nI (snN (a, b, bz))))) 0 9 + 1) → ∃ r, (some (Value.int 1) : Option Value) = some (.int r) ∧ Q r h6 := by
    rintro bz ez _ rfl
    rw [wr_in (by omega) (by decide)]
    have e09 : gi (sm h (pm_u (gi h) 129 (sS s).length (nI (snN (a, b, bz))))) 0 9 = nI (sS s).length := i.see.1
    rw [e09, show (1 : Int32) = nI 1 from rfl, nI_add]
    have ne : ∀ c, c ≠ 0 → c ≠ 129 → gi (si (sm h (pm_u (gi h) 129 (sS s).length (nI (snN (a, b, bz))))) 0 9 (nI ((sS s).length + 1))) c = gi h c := fun c c0 c1 => (si_0n c0).trans (pm_u_ne _ _ _ c1)
    have f0 : ∀ j, j ≠ 9 → gi (si (sm h (pm_u (gi h) 129 (sS s).length (nI (snN (a, b, bz))))) 0 9 (nI ((sS s).length + 1))) 0 j = gi h 0 j := fun j hj => by rw [si_00, if_neg hj]; rfl
    rw [ez] at k
    obtain ⟨i1, i2, i3, i4, i5, i6, i7, i8, i9⟩ := i
    refine ⟨_, rfl, k _ ?_ ⟨rfl, fun c hc => ne c (by omega) (by omega), fun _ _ => rfl, fun _ _ _ => rfl⟩⟩
    refine ⟨i1, i2.of (congrFun (ne 1 (by decide) (by decide)) 1) (ne 2 (by decide) (by decide)), i3.of (fun a _ _ => ne a (by omega) (by omega)) (fun a _ _ => rfl) (fun a _ _ => rfl), i4.of (fun a _ => ne a (by omega) (by omega)), i5.keep (fun q _ => ne _ (by omega) (by omega)), i6.of (f0 12 (by decide)) (f0 13 (by decide)) (fun a _ _ => ne a (by omega) (by omega)), ⟨?_, fun j p hp => ?_⟩, (f0 10 (by decide)).trans i8, i9.of (fun a _ => ne a (by omega) (by omega))⟩
    · rw [si_00, if_pos rfl, List.length_append, List.length_singleton]
    · rw [si_0n (by decide)]
      show pm_u (gi h) 129 (sS s).length (nI (snN (a, b, bz))) 129 j = _
      rw [pm_u_at]
      unfold pm_ui
      have hp : (sS s ++ [(a, b, bz)])[j]? = some p := hp
      by_cases q : j = (sS s).length
      · rw [if_pos q]
        rw [q, List.getElem?_append_right (Nat.le_refl _), Nat.sub_self] at hp
        have hp : some (a, b, bz) = some p := hp
        cases hp; rfl
      · rw [if_neg q]
        have hl := (List.getElem?_eq_some_iff.mp hp).1
        rw [List.length_append, List.length_singleton] at hl
        rw [List.getElem?_append_left (by omega)] at hp
        exact i7.2 j p hp
  by_cases z0 : z = 0
  · rw [if_pos z0, (sn_val a (List.mem_range.mpr ha) b (List.mem_range.mpr hb)).1]
    exact ⟨r5.1, row_set (d := d) r5 ⟨o1, fin false (by rw [decide_eq_true z0]; rfl)⟩⟩
  · rw [if_neg z0, (sn_val a (List.mem_range.mpr ha) b (List.mem_range.mpr hb)).2]
    exact ⟨r5.1, row_set (d := d) r5 ⟨o1, fin true (by rw [decide_eq_false z0]; rfl)⟩⟩
theorem m8_mul : ∀ m ∈ List.range 2, nI m * 8 = nI (8 * m) := by decide +kernel
theorem c_mark {x y : Int32} {Q : Int32 → pm_H → Prop} (i : InvC h s) (ok : okSta s w) (k : ∀ h', InvC h' (nMark s x y).2 → FrA h h' → Q (nMark s x y).1 h') : ci G (d + 4) m_X11_mark [.ref 0, .int x, .int y] h Q := by
  unfold nMark at k
  have i0 := i
  obtain ⟨o1, o0, o_1, o_2, o3, o4, o5, o6, o7, o8, o11, o14, o15, o16⟩ := i.la.own
  obtain ⟨r1, r2, r3, r4, r5, r6, r7, -⟩ := i.la.rws
  refine ci_wp rfl (Nat.le_of_ble_eq_true rfl) rfl (x_X11_mark ?_)
  by_cases x0 : x < 0
  · rw [inB_no (Or.inl x0) (by decide), if_neg (by decide)] at k
    rw [if_pos x0]; exact ⟨_, rfl, k h i FrA.rfl'⟩
  rw [if_neg x0]
  by_cases x1 : 2 ≤ x
  · rw [inB_no (Or.inr x1) (by decide), if_neg (by decide)] at k
    rw [if_pos x1]; exact ⟨_, rfl, k h i FrA.rfl'⟩
  rw [if_neg x1]
  rcases inB_or (n := 2) x (by decide) with c | ⟨m, hm, rfl, c, cx⟩
  · rw [inB_lt x0 x1 (by decide)] at c; cases c
  rw [if_pos c, cx] at k
  obtain ⟨i1, i2, i3, i4, i5, i6, i7, i8, i9⟩ := i
  have s8' := ok.s.2
  have m384 : 384 + 31 * m ∈ FLs := mark_mem hm
  by_cases y0 : y = 0
  · rw [if_pos y0] at k ⊢
    refine x_X11_mark_27 ?_
    rw [if_pos y0, o14]
    refine ⟨o1, c_markAt (d := d + 2) i1 hm ⟨o1, (fa_of i1 m384).1, ?_⟩⟩
    rw [o6]
    refine s_copyFrom (d := d + 1) (fa_of i1 m384) (fa_of i1 (by decide)) (by omega) i5 (fun M1 c1 f1 => ⟨o1, ?_⟩)
    rw [show gp (sm h M1) 0 16 = 134 from o16, show gi (sm h M1) 0 9 = nI (sS s).length from (congrFun (f1 0 (fun q _ => by omega) (by decide)) 9).trans i7.1]
    refine ⟨r7.1, row_set (d := d + 2) (h := sm h M1) r7 ⟨o1, ?_⟩⟩
    rw [wr_in hm (by decide)]
    rw [show gp (sm (sm h M1) (pm_u (gi (sm h M1)) 135 m (nI (sS s).length))) 0 15 = 132 from o15, show gp (sm (sm h M1) (pm_u (gi (sm h M1)) 135 m (nI (sS s).length))) 0 8 = 128 from o8]
    have e8 : nI m * 8 = nI (8 * m) := m8_mul m (List.mem_range.mpr hm)
    rw [e8]
    refine ⟨r6.1, row_cpart (d := d + 1) (h := sm (sm h M1) (pm_u (gi (sm h M1)) 135 m (nI (sS s).length))) (b := 0) (m := 8) r6 r5 (by omega) (by decide) (by decide) ?_⟩
    have gg : ∀ a, gi (sm (sm (sm h M1) (pm_u (gi (sm h M1)) 135 m (nI (sS s).length))) (cpP (gi (sm (sm h M1) (pm_u (gi (sm h M1)) 135 m (nI (sS s).length)))) 133 129 (8 * m) 0 8)) a = cpP (pm_u M1 135 m (nI (sS s).length)) 133 129 (8 * m) 0 8 a := fun a => rfl
    have ne : ∀ a, a ≠ 133 → a ≠ 135 → cpP (pm_u M1 135 m (nI (sS s).length)) 133 129 (8 * m) 0 8 a = M1 a := by
      intro a a1 a2
      funext j
      unfold cpP
      rw [if_neg (fun z => a1 z.1)]
      exact congrFun (pm_u_ne _ _ _ a2) j
    have nf1 : ∀ a, a ≠ 133 → a ≠ 135 → (∀ q, 1 ≤ q ∧ q ≤ 15 → a ≠ 384 + 31 * m + 2 * q) → a ≠ 21 → cpP (pm_u M1 135 m (nI (sS s).length)) 133 129 (8 * m) 0 8 a = gi h a := fun a a1 a2 a3 a4 => (ne a a1 a2).trans (f1 a a3 a4)
    refine ⟨_, rfl, k _ ?_ ⟨rfl, fun a ha => (gg a).trans (nf1 a (by omega) (by omega) (fun q _ => by omega) (by omega)), fun _ _ => rfl, fun _ _ _ => rfl⟩⟩
    have g135 : ∀ j, cpP (pm_u M1 135 m (nI (sS s).length)) 133 129 (8 * m) 0 8 135 j = if j = m then nI (sS s).length else gi h 135 j := by
      intro j
      unfold cpP
      rw [if_neg (fun z => absurd z.1 (by decide)), pm_u_at]
      unfold pm_ui
      rw [f1 135 (fun q _ => by omega) (by decide)]
    have g133 : ∀ j, cpP (pm_u M1 135 m (nI (sS s).length)) 133 129 (8 * m) 0 8 133 j = if 8 * m ≤ j ∧ j < 8 * m + 8 then gi h 129 (j - 8 * m) else gi h 133 j := by
      intro j
      unfold cpP
      rw [pm_u_ne _ _ _ (show 129 ≠ 135 by decide), pm_u_ne _ _ _ (show 133 ≠ 135 by decide), f1 129 (fun q _ => by omega) (by decide), f1 133 (fun q _ => by omega) (by decide), Nat.zero_add]
      by_cases c : 8 * m ≤ j ∧ j < 8 * m + 8
      · rw [if_pos ⟨rfl, c⟩, if_pos c]
      · rw [if_neg (fun z => c z.2), if_neg c]
    have gm : CF (cpP (pm_u M1 135 m (nI (sS s).length)) 133 129 (8 * m) 0 8) (384 + 31 * m) (sA s) := c1.keep fun q _ => ne _ (by omega) (by omega)
    clear c1 ne f1
    generalize cpP (pm_u M1 135 m (nI (sS s).length)) 133 129 (8 * m) 0 8 = M9 at *
    refine ⟨i1, i2.of (congrFun (nf1 1 (by decide) (by decide) (fun q _ => by omega) (by decide)) 1) (nf1 2 (by decide) (by decide) (fun q _ => by omega) (by decide)), i3.of (fun a _ _ => nf1 a (by omega) (by omega) (fun q _ => by omega) (by omega)) (fun a _ _ => rfl) (fun a _ _ => rfl), i4.of (fun a _ => nf1 a (by omega) (by omega) (fun q _ => by omega) (by omega)), i5.keep (fun q _ => nf1 _ (by omega) (by omega) (fun q _ => by omega) (by omega)), i6.of (congrFun (nf1 0 (by decide) (by decide) (fun q _ => by omega) (by decide)) 12) (congrFun (nf1 0 (by decide) (by decide) (fun q _ => by omega) (by decide)) 13) (fun a _ _ => nf1 a (by omega) (by omega) (fun q _ => by omega) (by omega)), i7.of (congrFun (nf1 0 (by decide) (by decide) (fun q _ => by omega) (by decide)) 9) (nf1 129 (by decide) (by decide) (fun q _ => by omega) (by decide)), (congrFun (nf1 0 (by decide) (by decide) (fun q _ => by omega) (by decide)) 10).trans i8, ?_⟩
    intro m' hm'
    obtain ⟨b1, b2⟩ := i9 m' hm'
    by_cases q : m' = m
    · refine ⟨fun z => ?_, fun A sl z => ?_⟩
      · have z : up1 (sM s) m (some (sA s, sS s)) m' = none := z
        rw [q, up1_at] at z; cases z
      · have z : up1 (sM s) m (some (sA s, sS s)) m' = some (A, sl) := z
        rw [q, up1_at] at z
        cases z
        rw [q]
        refine ⟨(g135 m).trans (if_pos rfl), gm, fun j p hp => ?_⟩
        have hl := (List.getElem?_eq_some_iff.mp hp).1
        refine (g133 _).trans ?_
        rw [if_pos ⟨by omega, by omega⟩, show 8 * m + j - 8 * m = j by omega]
        exact i7.2 j p hp
    · have eu : ∀ v, up1 (sM s) m (some (sA s, sS s)) m' = v → sM s m' = v := fun v z => by rwa [up1_ne _ _ q] at z
      refine ⟨fun z => (g135 m').trans ((if_neg q).trans (b1 (eu _ z))), fun A sl z => ?_⟩
      obtain ⟨d1, d2, d3⟩ := b2 A sl (eu _ z)
      refine ⟨(g135 m').trans ((if_neg q).trans d1), d2.keep (fun q' _ => nf1 _ (by omega) (by omega) (fun q2 _ => by omega) (by omega)), fun j p hp => ?_⟩
      have hl := (List.getElem?_eq_some_iff.mp hp).1
      have h8 := (ok.m m' A sl (eu _ z)).2.2
      refine (g133 _).trans ?_
      rw [if_neg (by omega)]
      exact d3 j p hp
  · rw [if_neg y0] at k ⊢
    rw [o16]
    refine ⟨o1, r7.1, row_at (d := d + 2) r7 ?_⟩
    rw [rd_in hm (by decide)]
    obtain ⟨b1, b2⟩ := i9 m hm
    cases e : sM s m with
    | none =>
      rw [e] at k
      rw [b1 e, if_pos rfl]
      exact ⟨_, rfl, k h i0 FrA.rfl'⟩
    | some p =>
      obtain ⟨A, sl⟩ := p
      rw [e] at k
      obtain ⟨d1, d2, d3⟩ := b2 A sl e
      have h8 := (ok.m m A sl e).2.2
      have k : ∀ h', InvC h' (stU (stS (stA s A) sl) []) → FrA h h' → Q 1 h' := k
      rw [d1, if_neg (nI_nm1 (by omega))]
      refine x_X11_mark_27 ?_
      rw [if_neg y0, o14, o6]
      refine ⟨o1, c_markAt (d := d + 2) i1 hm ⟨(fa_of i1 (by decide)).1, s_copyFrom (d := d + 1) (fa_of i1 (by decide)) (fa_of i1 m384) (by omega) d2 (fun M1 c1 f1 => ⟨o1, ?_⟩)⟩⟩
      rw [show gp (sm h M1) 0 16 = 134 from o16]
      refine ⟨r7.1, row_at (d := d + 2) (h := sm h M1) r7 ⟨o1, ?_⟩⟩
      rw [rd_in hm (by decide), show gi (sm h M1) 135 m = nI sl.length from (congrFun (f1 135 (fun q _ => by omega) (by decide)) m).trans d1]
      rintro _ rfl
      rw [show gp (si (sm h M1) 0 9 (nI sl.length)) 0 8 = 128 from o8, show gp (si (sm h M1) 0 9 (nI sl.length)) 0 15 = 132 from o15, m8_mul m (List.mem_range.mpr hm)]
      refine ⟨r5.1, row_cpart (d := d + 1) (h := si (sm h M1) 0 9 (nI sl.length)) (a := 0) (m := 8) r5 r6 (by decide) (by omega) (by decide) ⟨o1, ?_⟩⟩
      rintro _ rfl
      have e0 : ∀ j, M1 0 j = gi h 0 j := fun j => congrFun (f1 0 (fun q _ => by omega) (by decide)) j
      have gg : ∀ a, a ≠ 0 → gi (si (sm (si (sm h M1) 0 9 (nI sl.length)) (cpP (gi (si (sm h M1) 0 9 (nI sl.length))) 129 133 0 (8 * m) 8)) 0 13 0) a = cpP (gi (si (sm h M1) 0 9 (nI sl.length))) 129 133 0 (8 * m) 8 a := fun a ha => si_0n ha
      have ne : ∀ a, a ≠ 0 → a ≠ 129 → gi (si (sm (si (sm h M1) 0 9 (nI sl.length)) (cpP (gi (si (sm h M1) 0 9 (nI sl.length))) 129 133 0 (8 * m) 8)) 0 13 0) a = M1 a := by
        intro a a0 a1
        rw [gg a a0]
        funext j
        unfold cpP
        rw [if_neg (fun z => a1 z.1)]
        exact congrFun (si_0n (h := sm h M1) a0) j
      have nf1 : ∀ a, a ≠ 0 → a ≠ 129 → (∀ q, 1 ≤ q ∧ q ≤ 15 → a ≠ 59 + 2 * q) → a ≠ 21 → gi (si (sm (si (sm h M1) 0 9 (nI sl.length)) (cpP (gi (si (sm h M1) 0 9 (nI sl.length))) 129 133 0 (8 * m) 8)) 0 13 0) a = gi h a := fun a a0 a1 a2 a3 => (ne a a0 a1).trans (f1 a a2 a3)
      have g0 : ∀ j, gi (si (sm (si (sm h M1) 0 9 (nI sl.length)) (cpP (gi (si (sm h M1) 0 9 (nI sl.length))) 129 133 0 (8 * m) 8)) 0 13 0) 0 j = if j = 13 then 0 else if j = 9 then nI sl.length else gi h 0 j := by
        intro j
        rw [si_00]
        by_cases c : j = 13
        · rw [if_pos c, if_pos c]
        · rw [if_neg c, if_neg c]
          show cpP (gi (si (sm h M1) 0 9 (nI sl.length))) 129 133 0 (8 * m) 8 0 j = _
          unfold cpP
          rw [if_neg (fun z => absurd z.1 (by decide)), si_00]
          by_cases c2 : j = 9
          · rw [if_pos c2, if_pos c2]
          · rw [if_neg c2, if_neg c2]; exact e0 j
      have g129 : ∀ j, j < 8 → gi (si (sm (si (sm h M1) 0 9 (nI sl.length)) (cpP (gi (si (sm h M1) 0 9 (nI sl.length))) 129 133 0 (8 * m) 8)) 0 13 0) 129 j = gi h 133 (8 * m + j) := by
        intro j hj
        rw [gg 129 (by decide)]
        unfold cpP
        rw [if_pos ⟨rfl, Nat.zero_le _, by omega⟩, Nat.sub_zero, si_0n (h := sm h M1) (show 133 ≠ 0 by decide)]
        exact congrFun (f1 133 (fun q _ => by omega) (by decide)) _
      have gm : CF (gi (si (sm (si (sm h M1) 0 9 (nI sl.length)) (cpP (gi (si (sm h M1) 0 9 (nI sl.length))) 129 133 0 (8 * m) 8)) 0 13 0)) 59 A := c1.keep fun q _ => ne _ (by omega) (by omega)
      have La9 : La (si (sm (si (sm h M1) 0 9 (nI sl.length)) (cpP (gi (si (sm h M1) 0 9 (nI sl.length))) 129 133 0 (8 * m) 8)) 0 13 0) := i1
      have gj9 : gj (si (sm (si (sm h M1) 0 9 (nI sl.length)) (cpP (gi (si (sm h M1) 0 9 (nI sl.length))) 129 133 0 (8 * m) 8)) 0 13 0) = gj h := rfl
      have gf9 : gf (si (sm (si (sm h M1) 0 9 (nI sl.length)) (cpP (gi (si (sm h M1) 0 9 (nI sl.length))) 129 133 0 (8 * m) 8)) 0 13 0) = gf h := rfl
      have gp9 : gp (si (sm (si (sm h M1) 0 9 (nI sl.length)) (cpP (gi (si (sm h M1) 0 9 (nI sl.length))) 129 133 0 (8 * m) 8)) 0 13 0) = gp h := rfl
      have g19 : (si (sm (si (sm h M1) 0 9 (nI sl.length)) (cpP (gi (si (sm h M1) 0 9 (nI sl.length))) 129 133 0 (8 * m) 8)) 0 13 0).1 = h.1 := rfl
      clear gg ne c1 f1 e0
      generalize si (sm (si (sm h M1) 0 9 (nI sl.length)) (cpP (gi (si (sm h M1) 0 9 (nI sl.length))) 129 133 0 (8 * m) 8)) 0 13 0 = h9 at *
      refine ⟨_, rfl, k h9 ?_ ⟨g19, fun a ha => nf1 a (by omega) (by omega) (fun q _ => by omega) (by omega), fun a _ => by rw [gj9], fun a j _ => by rw [gp9]⟩⟩
      obtain ⟨nw, p1, p2, p3, p4⟩ := i6
      refine ⟨La9, i2.of (congrFun (nf1 1 (by decide) (by decide) (fun q _ => by omega) (by decide)) 1) (nf1 2 (by decide) (by decide) (fun q _ => by omega) (by decide)), i3.of (fun a _ _ => nf1 a (by omega) (by omega) (fun q _ => by omega) (by omega)) (fun a _ _ => by rw [gj9]) (fun a _ _ => by rw [gf9]), i4.of (fun a _ => nf1 a (by omega) (by omega) (fun q _ => by omega) (by omega)), gm, ⟨nw, p1, ?_, ?_, fun j B hB => by cases hB⟩, ⟨?_, fun j p hp => ?_⟩, ?_, i9.of (fun a _ => nf1 a (by omega) (by omega) (fun q _ => by omega) (by omega))⟩
      · rw [g0, if_neg (by decide), if_neg (by decide)]; exact p2
      · rw [g0, if_pos rfl]; rfl
      · rw [g0, if_neg (by decide), if_pos rfl]
      · have hl := (List.getElem?_eq_some_iff.mp hp).1
        have hl : j < sl.length := hl
        rw [g129 j (by omega)]
        exact d3 j p hp
      · rw [g0, if_neg (by decide), if_neg (by decide)]; exact i8
end CWK
