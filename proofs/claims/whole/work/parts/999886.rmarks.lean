/-! SEEN, MARKS, CUT: the reference; CUT: the class -/
def aThou (s : Sta) (x : Int32) : Int32 := if inB (pN (sP s)) x = true then nI (cutS (mulS (ksP (sP s) (ix x)) (whoS 1000))) else -1
theorem thou_ok {x : Nat} (h : Okx 110 140 x) : Okx 1 253 x ∧ Okx 1 253 (whoS 1000) ∧ (x ≠ 0 → whoS 1000 ≠ 0 → 130 ≤ sgE x + sgE (whoS 1000) ∧ sgE x + sgE (whoS 1000) ≤ 370) ∧ Okx 1 156 (mulS x (whoS 1000)) ∧ FP.fmul (UInt32.ofNat x) 1148846080 = UInt32.ofNat (mulS x (whoS 1000)) := by
  have w1 : whoS 1000 = 1148846080 := by decide +kernel
  have e : sgE (whoS 1000) = 136 := by rw [w1]; decide
  have h1 : Okx 1 253 x := h.mono (by decide) (by decide)
  have h2 : Okx 1 253 (whoS 1000) := Or.inr (by have e := e; unfold sgE at e; omega)
  have hb : x ≠ 0 → whoS 1000 ≠ 0 → 130 ≤ sgE x + sgE (whoS 1000) ∧ sgE x + sgE (whoS 1000) ≤ 370 := fun q _ => by
    rcases h with z | ⟨z1, z2⟩
    · exact absurd z q
    · rw [e]; unfold sgE; omega
  obtain ⟨f1, f2⟩ := fmul_s h1 h2 hb
  refine ⟨h1, h2, hb, ?_, ?_⟩
  · rcases f2 with z | ⟨z1, z2⟩
    · exact Or.inl z
    · by_cases q : x = 0
      · left; unfold mulS; rw [if_pos (Or.inl q)]
      · right
        rcases h with y | ⟨y1, y2⟩
        · exact absurd y q
        · rw [e] at z1 z2
          unfold sgE at z1 z2
          omega
  · rw [← f1, w1]; rfl
section QSM
variable {G : pm_G} {d : Nat} {h : pm_H} {s : Sta} {w : Nat}
theorem c_thou {x : Int32} {Q : Int32 → pm_H → Prop} (i : InvC h s) (ok : okSta s w) (k : Q (aThou s x) h) : ci G (d + 4) m_X11_thousand [.ref 0, .int x] h Q := by
  unfold aThou at k
  have n3 := ok.n3
  obtain ⟨o1, o0, o_1, -⟩ := i.la.own
  refine ci_wp rfl (Nat.le_of_ble_eq_true rfl) rfl (x_X11_thousand ⟨o1, c_isItem (d := d + 2) i ok.pl ?_⟩)
  rcases inB_or (n := pN (sP s)) x (by omega) with c | ⟨a, ha, rfl, c, cx⟩
  · rw [c] at k ⊢; rw [if_neg (by decide)] at k; rw [if_pos b0f]; exact ⟨_, rfl, k⟩
  · rw [c] at k ⊢; rw [if_pos rfl, cx] at k; rw [if_neg b1t, o_1]
    obtain ⟨t1, t2, t3, t4, t5⟩ := thou_ok (ok.pl.key ha)
    refine ⟨o1, i.la.lw.1.1, s_keyOf3 (d := d + 2) i ok ha ?_⟩
    rw [t5, (f2i_s t4).1]
    exact ⟨t4.num (by decide), _, rfl, k⟩
theorem q_thou {x : Int32} {Q : Int32 → pm_H → Prop} (i : InvR h s) (ok : okSta s w) (k : ∀ h', InvR h' s → FrB h h' → Q (aThou s x) h') : ci G (d + 20) m_X12_thousand [.ref 446, .int x] h Q := by
  have n3 := ok.n3
  refine ci_wp rfl (Nat.le_of_ble_eq_true rfl) rfl (x_X12_thousand ⟨i.la.md.1, ?_⟩)
  rintro h1 e1
  have i1 : InvR h1 s := by rw [e1]; exact i.th
  have f1 : FrB h h1 := by rw [e1]; exact FrB.si (by decide)
  have k := k h1 i1 f1
  clear e1
  unfold aThou at k
  refine q_isItem (d := d + 17) i1 ok.pl ?_
  rcases inB_or (n := pN (sP s)) x (by omega) with c | ⟨a, ha, rfl, c, cx⟩
  · rw [c] at k ⊢; rw [if_neg (by decide)] at k; rw [if_pos b0f]; exact ⟨_, rfl, k⟩
  · rw [c] at k ⊢; rw [if_pos rfl, cx] at k; rw [if_neg b1t, i1.la.mk.2.1, cl_nI (show a < 2 ^ 31 by omega), i1.ky a ha]
    obtain ⟨t1, t2, t3, t4, t5⟩ := thou_ok (ok.pl.key ha)
    refine ⟨i1.la.md.1, 20, i1.la.mk.2.2.1, vp_nI (by omega) (by decide), r_ofWhole (n := 1000) (d := d + 16) (by decide) (r_multiplies (d := d + 16) t1 t2 t3 (r_cutsOf (d := d + 17) t4 ⟨_, rfl, k⟩))⟩
theorem sn_ix : ∀ k ∈ List.range 9, 321 + (3 * nI k) = nI (321 + 3 * k) ∧ (321 + (3 * nI k)) + 1 = nI (321 + 3 * k + 1) ∧ (321 + (3 * nI k)) + 2 = nI (321 + 3 * k + 2) := by decide +kernel
theorem up_458 (h : pm_H) (k : Nat) (v : Int32) : gi (si h 458 k v) 458 = up1 (gi h 458) k v := by
  show pm_u (gi h) 458 k v 458 = _
  rw [pm_u_at]; rfl
theorem q_see {x y z : Int32} {Q : Int32 → pm_H → Prop} (i : InvR h s) (ok : okSta s w) (k : ∀ h', InvR h' (nSee s x y z).2 → FrB h h' → Q (nSee s x y z).1 h') : ci G (d + 2) m_X12_see [.ref 446, .int x, .int y, .int z] h Q := by
  unfold nSee at k
  refine ci_wp rfl (Nat.le_of_ble_eq_true rfl) rfl (x_X12_see ⟨i.la.md.1, ?_⟩)
  rintro h1 e1
  have i1 : InvR h1 s := by rw [e1]; exact i.th
  have f1 : FrB h h1 := by rw [e1]; exact FrB.si (by decide)
  clear e1
  refine q_within (d := d) (n := 9) (by decide) ?_
  rcases inB_or (n := 9 + 1) x (by decide) with c | ⟨a, ha, rfl, c, cx⟩
  · rw [show inB 10 x = false from c, if_neg (by decide)] at k; rw [c, if_pos b0f]; exact ⟨_, rfl, k h1 i1 f1⟩
  rw [show inB 10 (nI a) = true from c, if_pos rfl, cx] at k; rw [c, if_neg b1t]
  refine q_within (d := d) (n := 3) (by decide) ?_
  rcases inB_or (n := 3 + 1) y (by decide) with c' | ⟨b, hb, rfl, c', cy⟩
  · rw [show inB 4 y = false from c', if_neg (by decide)] at k; rw [c', if_pos b0f]; exact ⟨_, rfl, k h1 i1 f1⟩
  rw [show inB 4 (nI b) = true from c', if_pos rfl, cy] at k; rw [c', if_neg b1t]
  have s8' := ok.s.2
  have e320 : gi h1 458 320 = nI (sS s).length := i1.see.1
  rw [i1.la.md.2.1, show (320 : Int32).toNatClampNeg = 320 from rfl, e320]
  refine ⟨i1.la.md.1, 4485, i1.la.md.2.2, vp_nI (k := 320) (by decide) (by decide), ?_⟩
  by_cases c8 : (sS s).length = 8
  · rw [if_pos c8] at k
    rw [if_pos (show nI (sS s).length = 8 by rw [c8]; rfl)]
    exact ⟨_, rfl, k h1 i1 f1⟩
  rw [if_neg c8] at k
  rw [if_neg (show ¬ nI (sS s).length = 8 from fun q => c8 ((nI_inj (b := 8) (by omega) (by decide)).mp q))]
  obtain ⟨n1, n2, n3⟩ := sn_ix (sS s).length (List.mem_range.mpr (by omega))
  rw [n2, n3, n1, cl_nI (show 321 + 3 * (sS s).length < 2 ^ 31 by omega), cl_nI (show 321 + 3 * (sS s).length + 1 < 2 ^ 31 by omega), cl_nI (show 321 + 3 * (sS s).length + 2 < 2 ^ 31 by omega)]
  refine ⟨vp_nI (by omega) (by decide), ?_⟩
  rintro _ rfl
  have g17a : gp (si h1 458 (321 + 3 * (sS s).length) (nI a)) 446 17 = 458 := i1.la.md.2.1
  rw [g17a]
  refine ⟨4485, i1.la.md.2.2, vp_nI (by omega) (by decide), ?_⟩
  rintro _ rfl
  have g17 : gp (si (si h1 458 (321 + 3 * (sS s).length) (nI a)) 458 (321 + 3 * (sS s).length + 1) (nI b)) 446 17 = 458 := i1.la.md.2.1
  rw [g17]
  have fin : ∀ (bz : Bool) (v : Int32), (!decide (z = 0)) = bz → v = b2i bz → ∃ n14 : Nat, h1.1[458]? = some (1, n14) ∧ (vp_in (nI (321 + 3 * (sS s).length + 2)) n14) ∧ ∀ h15 : pm_H, h15 = si (si (si h1 458 (321 + 3 * (sS s).length) (nI a)) 458 (321 + 3 * (sS s).length + 1) (nI b)) 458 (321 + 3 * (sS s).length + 2) v → ∃ n16 : Nat, h1.1[gp h15 446 17]? = some (1, n16) ∧ (vp_in 320 n16) ∧ ∀ h17 : pm_H, h17 = si h15 (gp h15 446 17) (320 : Int32).toNatClampNeg ((gi h15 (gp h15 446 17) (320 : Int32).toNatClampNeg) + 1) → ∃ r, (some (Value.int 1) : Option Value) = some (.int r) ∧ Q r h17 := by
    intro bz v ez ev
    refine ⟨4485, i1.la.md.2.2, vp_nI (by omega) (by decide), ?_⟩
    rintro _ rfl
    have g17b : gp (si (si (si h1 458 (321 + 3 * (sS s).length) (nI a)) 458 (321 + 3 * (sS s).length + 1) (nI b)) 458 (321 + 3 * (sS s).length + 2) v) 446 17 = 458 := i1.la.md.2.1
    rw [g17b, show (320 : Int32).toNatClampNeg = 320 from rfl]
    refine ⟨4485, i1.la.md.2.2, vp_nI (k := 320) (by decide) (by decide), ?_⟩
    rintro _ rfl
    have gS : gi (si (si (si h1 458 (321 + 3 * (sS s).length) (nI a)) 458 (321 + 3 * (sS s).length + 1) (nI b)) 458 (321 + 3 * (sS s).length + 2) v) 458 = up1 (up1 (up1 (gi h1 458) (321 + 3 * (sS s).length) (nI a)) (321 + 3 * (sS s).length + 1) (nI b)) (321 + 3 * (sS s).length + 2) v := by rw [up_458, up_458, up_458]
    have e9 : gi (si (si (si h1 458 (321 + 3 * (sS s).length) (nI a)) 458 (321 + 3 * (sS s).length + 1) (nI b)) 458 (321 + 3 * (sS s).length + 2) v) 458 320 = nI (sS s).length := by
      rw [gS, up1_ne _ _ (by omega), up1_ne _ _ (by omega), up1_ne _ _ (by omega)]; exact e320
    rw [e9, show (1 : Int32) = nI 1 from rfl, nI_add]
    have gT : gi (si (si (si (si h1 458 (321 + 3 * (sS s).length) (nI a)) 458 (321 + 3 * (sS s).length + 1) (nI b)) 458 (321 + 3 * (sS s).length + 2) v) 458 320 (nI ((sS s).length + 1))) 458 = up1 (up1 (up1 (up1 (gi h1 458) (321 + 3 * (sS s).length) (nI a)) (321 + 3 * (sS s).length + 1) (nI b)) (321 + 3 * (sS s).length + 2) v) 320 (nI ((sS s).length + 1)) := by rw [up_458, gS]
    have gne : ∀ c, c ≠ 458 → gi (si (si (si (si h1 458 (321 + 3 * (sS s).length) (nI a)) 458 (321 + 3 * (sS s).length + 1) (nI b)) 458 (321 + 3 * (sS s).length + 2) v) 458 320 (nI ((sS s).length + 1))) c = gi h1 c := fun c hc => (pm_u_ne _ _ _ hc).trans ((pm_u_ne _ _ _ hc).trans ((pm_u_ne _ _ _ hc).trans (pm_u_ne _ _ _ hc)))
    have far : ∀ x, (x < 320 ∨ 345 ≤ x) → gi (si (si (si (si h1 458 (321 + 3 * (sS s).length) (nI a)) 458 (321 + 3 * (sS s).length + 1) (nI b)) 458 (321 + 3 * (sS s).length + 2) v) 458 320 (nI ((sS s).length + 1))) 458 x = gi h1 458 x := fun x hx => by
      rw [gT, up1_ne _ _ (by omega), up1_ne _ _ (by omega), up1_ne _ _ (by omega), up1_ne _ _ (by omega)]
    refine ⟨_, rfl, k _ ?_ (f1.trans ⟨rfl, fun c hc => gne c (by omega), fun _ _ => rfl, rfl, rfl⟩)⟩
    rw [ez]
    refine InvR_new (h := h1) (s := s) (A' := sA s) (us' := sU s) (sl' := sS s ++ [(a, b, bz)]) (n' := sN s) (mk' := sM s) i1 rfl (fun c h1' _ _ h2' _ => gne c h2') (congrFun (gne 446 (by decide)) 2) (fun _ _ => rfl) rfl ?_ (past_keep i1.past ok.u.2 (congrFun (gne 446 (by decide)) 18) (gne 460 (by decide)) (fun x h1' _ => far x (by omega))) ⟨?_, fun j p hp => ?_⟩ ((congrFun (gne 446 (by decide)) 19).trans i1.shut) (mark_keep i1.mark (fun m A sl z => (ok.m m A sl z).2.2) (gne 459 (by decide)) (gne 460 (by decide)) (fun x h1' _ => far x (by omega)))
    · exact i1.ra.move (a := 0) (c := 0) (fun x hx => far _ (by omega))
    · rw [gT, up1_at, List.length_append, List.length_singleton]
    · have hl := (List.getElem?_eq_some_iff.mp hp).1
      rw [List.length_append, List.length_singleton] at hl
      rw [gT]
      by_cases q : j = (sS s).length
      · rw [q, List.getElem?_append_right (Nat.le_refl _), Nat.sub_self] at hp
        have hp : some (a, b, bz) = some p := hp
        cases hp
        rw [q]
        refine ⟨?_, ?_, ?_⟩
        · rw [up1_ne _ _ (by omega), up1_ne _ _ (by omega), up1_ne _ _ (by omega), up1_at]
        · rw [up1_ne _ _ (by omega), up1_ne _ _ (by omega), up1_at]
        · rw [up1_ne _ _ (by omega), up1_at]; exact ev
      · rw [List.getElem?_append_left (by omega)] at hp
        obtain ⟨z1, z2, z3⟩ := i1.see.2 j p hp
        refine ⟨?_, ?_, ?_⟩
        · rw [up1_ne _ _ (by omega), up1_ne _ _ (by omega), up1_ne _ _ (by omega), up1_ne _ _ (by omega)]; exact z1
        · rw [up1_ne _ _ (by omega), up1_ne _ _ (by omega), up1_ne _ _ (by omega), up1_ne _ _ (by omega)]; exact z2
        · rw [up1_ne _ _ (by omega), up1_ne _ _ (by omega), up1_ne _ _ (by omega), up1_ne _ _ (by omega)]; exact z3
  by_cases z0 : z = 0
  · rw [if_pos z0]
    exact fin false 0 (by rw [decide_eq_true z0]; rfl) rfl
  · rw [if_neg z0]
    exact fin true 1 (by rw [decide_eq_false z0]; rfl) rfl
theorem La.mkd (hL : La h) : gp h 446 20 = 459 ∧ h.1[459]? = some (5, 2) := ⟨hL.p (by decide +kernel) (by omega), hL.k (by decide +kernel)⟩
theorem q_mark {x y : Int32} {Q : Int32 → pm_H → Prop} (i : InvR h s) (ok : okSta s w) (k : ∀ h', InvR h' (nMark s x y).2 → FrB h h' → Q (nMark s x y).1 h') : ci G (d + 2) m_X12_mark [.ref 446, .int x, .int y] h Q := by
  unfold nMark at k
  refine ci_wp rfl (Nat.le_of_ble_eq_true rfl) rfl (x_X12_mark ⟨i.la.md.1, ?_⟩)
  rintro h1 e1
  have i1 : InvR h1 s := by rw [e1]; exact i.th
  have f1 : FrB h h1 := by rw [e1]; exact FrB.si (by decide)
  clear e1
  have s8' := ok.s.2
  refine q_within (d := d) (n := 1) (by decide) ?_
  rcases inB_or (n := 1 + 1) x (by decide) with c | ⟨m, hm, rfl, c, cx⟩
  · rw [show inB 2 x = false from c, if_neg (by decide)] at k; rw [c, if_pos b0f]; exact ⟨_, rfl, k h1 i1 f1⟩
  rw [show inB 2 (nI m) = true from c, if_pos rfl, cx] at k; rw [c, if_neg b1t]
  obtain ⟨d1, d2⟩ := i1.la.mkd
  have nar1 : vp_nar .boolean 1 = 1 := rfl
  have m3 := (m345 m (List.mem_range.mpr (by omega))).2.2
  by_cases y0 : y = 0
  · rw [if_pos y0] at k ⊢
    refine x_X12_mark_29 ⟨i1.la.md.1, ?_⟩
    rw [d1, cl_nI (show m < 2 ^ 31 by omega), nar1]
    refine ⟨2, d2, vp_nI hm (by decide), ?_⟩
    rintro _ rfl
    rw [if_pos y0, if_pos y0, m3]
    refine q_moves (d := d) (h := si h1 459 m 1) (a := 0) (n := 345) i1.la (by decide) (by omega) (by omega) ?_
    rintro _ rfl
    rw [if_pos y0]
    refine ⟨i1.la.md.1, ?_⟩
    rintro _ rfl
    have e458 : gi (si h1 459 m 1) 458 = gi h1 458 := pm_u_ne (gi h1) m 1 (show (458 : Nat) ≠ 459 by decide)
    rw [e458]
    have e18 : gi (s8 (si h1 459 m 1) (mvS (gi h1 458) 0 (345 * (1 + m)) 345)) 446 18 = nI (sU s).length := (congrFun ((s8_ne _ _ (by decide)).trans (pm_u_ne (gi h1) m 1 (show (446 : Nat) ≠ 459 by decide))) 18).trans i1.past.1
    rw [e18]
    have gS : gi (si (s8 (si h1 459 m 1) (mvS (gi h1 458) 0 (345 * (1 + m)) 345)) 446 18 (nI (sU s).length)) 458 = mvS (gi h1 458) 0 (345 * (1 + m)) 345 := (si_6n (by decide)).trans (s8_gi _ _)
    have g59 : ∀ j, gi (si (s8 (si h1 459 m 1) (mvS (gi h1 458) 0 (345 * (1 + m)) 345)) 446 18 (nI (sU s).length)) 459 j = if j = m then 1 else gi h1 459 j := fun j => by
      rw [si_6n (by decide), s8_ne _ _ (by decide)]
      show pm_u (gi h1) 459 m 1 459 j = _
      rw [pm_u_at]; rfl
    have gne : ∀ c, c ≠ 446 → c ≠ 458 → c ≠ 459 → gi (si (s8 (si h1 459 m 1) (mvS (gi h1 458) 0 (345 * (1 + m)) 345)) 446 18 (nI (sU s).length)) c = gi h1 c := fun c c1 c2 c3 => (si_6n c1).trans ((s8_ne _ _ c2).trans (pm_u_ne _ _ _ c3))
    have g46 : ∀ j, gi (si (s8 (si h1 459 m 1) (mvS (gi h1 458) 0 (345 * (1 + m)) 345)) 446 18 (nI (sU s).length)) 446 j = if j = 18 then nI (sU s).length else gi h1 446 j := fun j => by
      rw [si_66]
      by_cases q : j = 18
      · rw [if_pos q, if_pos q]
      · rw [if_neg q, if_neg q, s8_ne _ _ (by decide)]
        exact congrFun (pm_u_ne (gi h1) m 1 (show (446 : Nat) ≠ 459 by decide)) j
    have far : ∀ x, (x < 345 * (1 + m) ∨ 345 * (2 + m) ≤ x) → mvS (gi h1 458) 0 (345 * (1 + m)) 345 x = gi h1 458 x := fun x hx => by unfold mvS; rw [if_neg (by omega)]
    have far2 : ∀ x, x < 345 → mvS (gi h1 458) 0 (345 * (1 + m)) 345 (345 * (1 + m) + x) = gi h1 458 x := fun x hx => by rw [mvS_at hx, Nat.zero_add]
    refine ⟨_, rfl, k _ ?_ (f1.trans ⟨rfl, fun c hc => gne c (by omega) (by omega) (by omega), fun _ _ => rfl, rfl, rfl⟩)⟩
    refine InvR_new (h := h1) (s := s) (A' := sA s) (us' := sU s) (sl' := sS s) (n' := sN s) (mk' := up1 (sM s) m (some (sA s, sS s))) i1 rfl (fun c h1' _ _ h2' h3' => gne c h1' h2' h3') ((g46 2).trans (if_neg (by decide))) (fun _ _ => rfl) rfl ?_ (past_keep i1.past ok.u.2 ((g46 18).trans ((if_pos rfl).trans i1.past.1.symm)) (gne 460 (by decide) (by decide) (by decide)) (fun x h1' _ => by rw [gS]; exact far x (by omega))) ?_ ((g46 19).trans ((if_neg (by decide)).trans i1.shut)) (fun m' hm' => ⟨fun z => ?_, fun A sl z => ?_⟩)
    · rw [gS]; exact i1.ra.move (a := 0) (c := 0) (fun x hx => far _ (by omega))
    · rw [gS]; exact i1.see.of ok.s.2 (fun x hx => far x (by omega))
    · by_cases q : m' = m
      · rw [q, up1_at] at z; cases z
      · rw [up1_ne _ _ q] at z
        rw [g59, if_neg q]; exact (i1.mark m' hm').1 z
    · rw [g59, gne 460 (by decide) (by decide) (by decide), gS]
      by_cases q : m' = m
      · rw [q, up1_at] at z
        cases z
        rw [if_pos q, q]
        refine ⟨rfl, i1.ra.move (a := 0) (fun x hx => ?_), i1.see.of ok.s.2 (fun x hx => far2 x hx)⟩
        rw [far2 x (by omega), Nat.zero_add]
      · rw [up1_ne _ _ q] at z
        obtain ⟨z1, z2, z3⟩ := (i1.mark m' hm').2 A sl z
        rw [if_neg q]
        exact ⟨z1, z2.move (fun x hx => far _ (by omega)), z3.of (ok.m m' A sl z).2.2 (fun x hx => far _ (by omega))⟩
  · rw [if_neg y0] at k ⊢
    rw [d1, cl_nI (show m < 2 ^ 31 by omega)]
    refine ⟨i1.la.md.1, 2, d2, vp_nI hm (by decide), ?_⟩
    obtain ⟨b1, b2⟩ := i1.mark m hm
    cases e : sM s m with
    | none =>
      rw [e] at k
      rw [b1 e, if_pos rfl]
      exact ⟨_, rfl, k h1 i1 f1⟩
    | some p =>
      obtain ⟨A, sl⟩ := p
      rw [e] at k
      obtain ⟨z1, z2, z3⟩ := b2 A sl e
      have h8 := (ok.m m A sl e).2.2
      have k : ∀ h', InvR h' (stU (stS (stA s A) sl) []) → FrB h h' → Q 1 h' := k
      rw [z1, if_neg (by decide)]
      refine x_X12_mark_29 ⟨i1.la.md.1, ?_⟩
      rw [d1, cl_nI (show m < 2 ^ 31 by omega), nar1]
      refine ⟨2, d2, vp_nI hm (by decide), ?_⟩
      rintro _ rfl
      rw [if_neg y0, if_neg y0, m3]
      refine q_moves (d := d) (h := si h1 459 m 1) (c := 0) (n := 345) i1.la (by omega) (by decide) (by omega) ?_
      rintro _ rfl
      rw [if_neg y0]
      refine ⟨i1.la.md.1, ?_⟩
      rintro _ rfl
      have e458 : gi (si h1 459 m 1) 458 = gi h1 458 := pm_u_ne (gi h1) m 1 (show (458 : Nat) ≠ 459 by decide)
      rw [e458]
      have gS : gi (si (s8 (si h1 459 m 1) (mvS (gi h1 458) (345 * (1 + m)) 0 345)) 446 18 0) 458 = mvS (gi h1 458) (345 * (1 + m)) 0 345 := (si_6n (by decide)).trans (s8_gi _ _)
      have g59 : ∀ j, gi (si (s8 (si h1 459 m 1) (mvS (gi h1 458) (345 * (1 + m)) 0 345)) 446 18 0) 459 j = if j = m then 1 else gi h1 459 j := fun j => by
        rw [si_6n (by decide), s8_ne _ _ (by decide)]
        show pm_u (gi h1) 459 m 1 459 j = _
        rw [pm_u_at]; rfl
      have gne : ∀ c, c ≠ 446 → c ≠ 458 → c ≠ 459 → gi (si (s8 (si h1 459 m 1) (mvS (gi h1 458) (345 * (1 + m)) 0 345)) 446 18 0) c = gi h1 c := fun c c1 c2 c3 => (si_6n c1).trans ((s8_ne _ _ c2).trans (pm_u_ne _ _ _ c3))
      have g46 : ∀ j, gi (si (s8 (si h1 459 m 1) (mvS (gi h1 458) (345 * (1 + m)) 0 345)) 446 18 0) 446 j = if j = 18 then 0 else gi h1 446 j := fun j => by
        rw [si_66]
        by_cases q : j = 18
        · rw [if_pos q, if_pos q]
        · rw [if_neg q, if_neg q, s8_ne _ _ (by decide)]
          exact congrFun (pm_u_ne (gi h1) m 1 (show (446 : Nat) ≠ 459 by decide)) j
      have far : ∀ x, 345 ≤ x → mvS (gi h1 458) (345 * (1 + m)) 0 345 x = gi h1 458 x := fun x hx => by unfold mvS; rw [if_neg (by omega)]
      have low : ∀ x, x < 345 → mvS (gi h1 458) (345 * (1 + m)) 0 345 x = gi h1 458 (345 * (1 + m) + x) := fun x hx => by
        have := mvS_at (S := gi h1 458) (a := 345 * (1 + m)) (c := 0) (n := 345) hx
        rw [Nat.zero_add] at this; exact this
      refine ⟨_, rfl, k _ ?_ (f1.trans ⟨rfl, fun c hc => gne c (by omega) (by omega) (by omega), fun _ _ => rfl, rfl, rfl⟩)⟩
      refine InvR_new (h := h1) (s := s) (A' := A) (us' := []) (sl' := sl) (n' := sN s) (mk' := sM s) i1 rfl (fun c h1' _ _ h2' h3' => gne c h1' h2' h3') ((g46 2).trans (if_neg (by decide))) (fun _ _ => rfl) rfl ?_ ⟨(g46 18).trans (if_pos rfl), fun j B hB => by cases hB⟩ ?_ ((g46 19).trans ((if_neg (by decide)).trans i1.shut)) (fun m' hm' => ⟨fun z => ?_, fun A2 sl2 z => ?_⟩)
      · rw [gS]
        refine z2.move (c := 0) (fun x hx => ?_)
        rw [Nat.zero_add, low x (by omega)]
      · rw [gS]
        exact z3.of h8 (fun x hx => low x hx)
      · have q : m' ≠ m := fun q => by rw [q, e] at z; cases z
        rw [g59, if_neg q]; exact (i1.mark m' hm').1 z
      · rw [g59, gne 460 (by decide) (by decide) (by decide), gS]
        obtain ⟨v1, v2, v3⟩ := (i1.mark m' hm').2 A2 sl2 z
        refine ⟨?_, v2.move (fun x hx => far _ (by omega)), v3.of (ok.m m' A2 sl2 z).2.2 (fun x hx => far _ (by omega))⟩
        split
        · rfl
        · exact v1
end QSM
