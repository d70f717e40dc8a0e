/-! DAYS: works by draws -/
theorem dr_ex : ∃ f : (Nat → Nat) × (Nat → Nat → Nat), (∀ g, f.1 g = (g * 1103515245 + 12345) % 2147483648) ∧ ∀ g m, f.2 g m = g / 65536 % m := ⟨(fun g => (g * 1103515245 + 12345) % 2147483648, fun g m => g / 65536 % m), fun _ => rfl, fun _ _ => rfl⟩
noncomputable def drG : Nat → Nat := (Classical.choose dr_ex).1
noncomputable def drV : Nat → Nat → Nat := (Classical.choose dr_ex).2
theorem drG_e (g : Nat) : drG g = (g * 1103515245 + 12345) % 2147483648 := (Classical.choose_spec dr_ex).1 g
theorem drV_e (g m : Nat) : drV g m = g / 65536 % m := (Classical.choose_spec dr_ex).2 g m
theorem drG_lt (g : Nat) : drG g < 2147483648 := by rw [drG_e]; exact Nat.mod_lt _ (by decide)
theorem drV_lt (g : Nat) {m : Nat} (h : 0 < m) : drV g m < m := by rw [drV_e]; exact Nat.mod_lt _ h
/-- what is drawn: a line -/
noncomputable def dayK (H N g : Nat) : Ln :=
  if drV (drG (drG (drG g))) 4 < 2 then (0, drV (drG (drG g)) N, drV (drG g) H)
  else if drV (drG (drG (drG g))) 4 = 2 then (1, drV (drG g) H, 0)
  else (2, drV (drG g) H, if drV (drG g) H + 1 < H then drV (drG g) H + 1 else 0)
noncomputable def dayL (lt : Nat → Nat → Bool) (tvf : Int32 → Nat → Int32 → Int32) (kd skd : Nat → Int32) (H N : Nat) : Nat → Nat → Nat → AF → Nat × AF
  | 0, _, c, A => (c, A)
  | n + 1, g, c, A => dayL lt tvf kd skd H N n (drG (drG (drG g))) (if (doA lt tvf kd skd A (dayK H N g).1 (dayK H N g).2.1 (dayK H N g).2.2).1 = true then c + 1 else c) (doA lt tvf kd skd A (dayK H N g).1 (dayK H N g).2.1 (dayK H N g).2.2).2
theorem dayK_ok {H N g : Nat} (hH : 0 < H) (hH3 : H ≤ 3) (hN : 0 < N) : lnOK N (dayK H N g).1 (dayK H N g).2.1 (dayK H N g).2.2 := by
  have a1 : drV (drG g) H < H := drV_lt _ hH
  have a2 : drV (drG (drG g)) N < N := drV_lt _ hN
  unfold dayK
  split
  · exact ⟨show (0 : Nat) < 4 by decide, fun _ => ⟨a2, show drV (drG g) H < 3 by omega⟩, fun q => absurd (show (0 : Nat) = 1 from q) (by decide), fun q => absurd (show (0 : Nat) = 2 from q) (by decide), fun q => absurd (show (0 : Nat) = 3 from q) (by decide)⟩
  · split
    · exact ⟨show (1 : Nat) < 4 by decide, fun q => absurd (show (1 : Nat) = 0 from q) (by decide), fun _ => show drV (drG g) H < 3 by omega, fun q => absurd (show (1 : Nat) = 2 from q) (by decide), fun q => absurd (show (1 : Nat) = 3 from q) (by decide)⟩
    · refine ⟨show (2 : Nat) < 4 by decide, fun q => absurd (show (2 : Nat) = 0 from q) (by decide), fun q => absurd (show (2 : Nat) = 1 from q) (by decide), fun _ => ⟨show drV (drG g) H < 3 by omega, ?_⟩, fun q => absurd (show (2 : Nat) = 3 from q) (by decide)⟩
      show (if drV (drG g) H + 1 < H then drV (drG g) H + 1 else 0) < 3
      split <;> omega
theorem okN_day {lt : Nat → Nat → Bool} {tvf : Int32 → Nat → Int32 → Int32} {kd skd : Nat → Int32} {H N : Nat} (hH : 0 < H) (hH3 : H ≤ 3) (hN0 : 0 < N) (hN : N ≤ 20) (hpos : ∀ al r g, 0 < tvf al r g) : ∀ (n g c w : Nat) (A : AF), w + n ≤ 1000 → okN N A w → okN N (dayL lt tvf kd skd H N n g c A).2 (w + n)
  | 0, _, _, _, _, _, h => h
  | n + 1, g, c, w, A, hw, h => by
    rw [dayL]
    have o := okN_day (lt := lt) (kd := kd) (skd := skd) hH hH3 hN0 hN hpos n (drG (drG (drG g))) (if (doA lt tvf kd skd A (dayK H N g).1 (dayK H N g).2.1 (dayK H N g).2.2).1 = true then c + 1 else c) (w + 1) (doA lt tvf kd skd A (dayK H N g).1 (dayK H N g).2.1 (dayK H N g).2.2).2 (by omega) (okN_do h hN (dayK_ok hH hH3 hN0) (by omega) hpos)
    rwa [show w + (n + 1) = w + 1 + n by omega]
theorem dayL_agr {H N : Nat} {lt lt' : Nat → Nat → Bool} {tvf : Int32 → Nat → Int32 → Int32} {kd skd kd' skd' : Nat → Int32} (hH : 0 < H) (hH3 : H ≤ 3) (hN0 : 0 < N) (hN : N ≤ 20) (hpos : ∀ al r g, 0 < tvf al r g) (ha : Agr N lt lt') (hk : ∀ t, t < N → kd t = kd' t) : ∀ (n g c w : Nat) (A : AF), w + n ≤ 1000 → okN N A w → dayL lt tvf kd skd H N n g c A = dayL lt' tvf kd' skd' H N n g c A
  | 0, _, _, _, _, _, _ => rfl
  | n + 1, g, c, w, A, hw, h => by
    rw [dayL, dayL]
    have hK := dayK_ok (g := g) hH hH3 hN0
    have n3 : ¬ (dayK H N g).1 = 3 := by
      unfold dayK
      split
      · exact show ¬ (0 : Nat) = 3 by decide
      · split
        · exact show ¬ (1 : Nat) = 3 by decide
        · exact show ¬ (2 : Nat) = 3 by decide
    have e := doA_agr (tvf := tvf) (skd := skd) (skd' := skd') ha hk hK h (by omega) (fun q => absurd q n3)
    rw [← e]
    exact dayL_agr hH hH3 hN0 hN hpos ha hk n _ _ (w + 1) _ (by omega) (okN_do h hN hK (by omega) hpos)
def sj (h : pm_H) (J : Nat → Nat → Int64) : pm_H := (h.1, h.2.1, J, h.2.2.2)
def JX (c f : Nat) (h : pm_H) (J : Nat → Nat → Int64) (g : Nat) : Prop := J c f = lN g ∧ ∀ a, a ≠ c → J a = gj h a
theorem dr_stp {g : Nat} (hg : g < 2147483648) : ((lN g * (1103515245 : Int64)) + (12345 : Int64)) - ((lN g * (1103515245 : Int64)) + (12345 : Int64)) / (2147483648 : Int64) * (2147483648 : Int64) = lN (drG g) := by
  rw [show (1103515245 : Int64) = lN 1103515245 from rfl, show (12345 : Int64) = lN 12345 from rfl, show (2147483648 : Int64) = lN 2147483648 from rfl, lN_mul, lN_add, pk_lRem (by omega) (by decide) (by decide), drG_e]
theorem dr_val {g m : Nat} (hg : g < 2147483648) (hm : 0 < m) (hm2 : m < 2 ^ 31) : ((lN g / (65536 : Int64)) - (lN g / (65536 : Int64)) / (nI m).toInt64 * (nI m).toInt64).toInt32 = nI (drV g m) := by
  rw [show (65536 : Int64) = lN 65536 from rfl, nI_l hm2, pk_lDiv (by omega) (by decide) (by decide), pk_lRem (by omega) hm (by omega), lN_i, drV_e]
theorem dr_nz {m : Nat} (hm : 0 < m) (hm2 : m < 2 ^ 31) : ¬ (nI m).toInt64 = 0 := by
  rw [nI_l hm2, show (0 : Int64) = lN 0 from rfl, pk_lEQ (by omega) (by decide)]
  omega
section DAY
variable {G : pm_G} {d : Nat} {h : pm_H}
theorem s_drawBelow {Q : Int32 → pm_H → Prop} {J : Nat → Nat → Int64} {M : Nat → Nat → Int32} {g m : Nat} (hL : La h) (hg : g < 2147483648) (hJ : JX 90 6 h J g) (hm : 0 < m) (hm2 : m < 2 ^ 31) (k : ∀ J', JX 90 6 h J' (drG g) → Q (nI (drV (drG g) m)) (sm (sj h J') M)) : ci G (d + 1) m_X8_drawBelow [.ref 90, .int (nI m)] (sm (sj h J) M) Q := by
  refine ci_wp rfl (Nat.le_of_ble_eq_true rfl) rfl (x_X8_drawBelow ⟨hL.tri.1, ?_⟩)
  rintro _ rfl
  have e : gj (sm (sj h J) M) 90 6 = lN g := hJ.1
  rw [e, dr_stp hg]
  have eJ : pm_u (gj (sm (sj h J) M)) 90 6 (lN (drG g)) 90 6 = lN (drG g) := by rw [pm_u_at]; exact if_pos rfl
  have e2 : gj (sl (sm (sj h J) M) 90 6 (lN (drG g))) 90 6 = lN (drG g) := eJ
  rw [e2, if_neg (show ¬ nI m ≤ 0 from fun q => by have := (nI_le0 (by omega)).mp q; omega), dr_val (drG_lt g) hm hm2]
  exact ⟨dr_nz hm hm2, _, rfl, k _ ⟨eJ, fun a ha => (pm_u_ne _ _ _ ha).trans (hJ.2 a ha)⟩⟩
theorem s_liveLoop {post : pm_PT} {tvf : Int32 → Nat → Int32 → Int32} {N H many : Nat} (hL : La h) (hH : 0 < H) (hH3 : H ≤ 3) (hN0 : 0 < N) (hN : N ≤ 20) (hpos : ∀ al r t, 0 < tvf al r t) (hTV : ∀ J, TVc G d (sj h J) tvf) (hm : many ≤ 99) : ∀ (j i w g c : Nat) (A : AF) (M : Nat → Nat → Int32) (J : Nat → Nat → Int64), i + j = many → w + j ≤ 1000 → okN N A w → CF M 97 A → TX (gi h) M → g < 2147483648 → JX 90 6 h J g → (∀ M' J', (∀ a, a ≠ 90 → J' a = gj h a) → CF M' 97 (dayL (kLt (gf h 16)) tvf (gi h 13) (gi h 11) H N j g c A).2 → TX (gi h) M' → post (some (.int (nI (dayL (kLt (gf h 16)) tvf (gi h 13) (gi h 11) H N j g c A).1))) (sm (sj h J') M')) → Wp G (m_X8_live, d + 7, 0, 0, post) (0, 0) 44 [.ref 90, .null, .null, .int (nI many), .int (nI H), .int (nI N), .int (nI c), .int (nI i), .null, .null, .null, .null] [] (sm (sj h J) M) := by
  obtain ⟨t0, t1, t2, t3, t4, t5, t6, t7, t8, t9⟩ := hL.tri
  intro j
  induction j with
  | zero =>
    intro i w g c A M J hi hw hA hC hX hg hJ k
    refine x_X8_live_44 ?_
    rw [if_pos (show nI many ≤ nI i by rw [show i = many by omega]; exact Int32.le_refl _)]
    exact k M J hJ.2 hC hX
  | succ j ih =>
    intro i w g c A M J hi hw hA hC hX hg hJ k
    rw [dayL] at k
    refine x_X8_live_44 ?_
    rw [if_neg (show ¬ nI many ≤ nI i from nI_nlen (by omega) (by omega)), if_neg (show ¬ nI H ≤ 0 from fun q => by have := (nI_le0 (by omega)).mp q; omega), if_neg (show ¬ nI N ≤ 0 from fun q => by have := (nI_le0 (by omega)).mp q; omega)]
    have a1 : drV (drG g) H < H := drV_lt _ hH
    have a2 : drV (drG (drG g)) N < N := drV_lt _ hN0
    have a3 : drV (drG (drG (drG g))) 4 < 4 := drV_lt _ (by decide)
    refine ⟨t0, s_drawBelow (d := d + 5) hL hg hJ hH (by omega) (fun J1 hJ1 => ⟨t0, s_drawBelow (d := d + 5) hL (drG_lt _) hJ1 hN0 (by omega) (fun J2 hJ2 => ⟨t0, s_drawBelow (m := 4) (d := d + 5) hL (drG_lt _) hJ2 (by decide) (by decide) (fun J3 hJ3 => ?_)⟩)⟩)⟩
    have hK := dayK_ok (g := g) hH hH3 hN0
    have oN := okN_do (lt := kLt (gf h 16)) (kd := gi h 13) (skd := gi h 11) hA hN hK (by omega) hpos
    have g1 : gp (sm (sj h J3) M) 90 1 = 97 := t2
    have hLj : La (sm (sj h J3) M) := hL
    have tv := (hTV J3).sm (M := M) fun b hb => hX.law hb
    rw [g1, nI_1, nI_1]
    have nx : ∀ M', CF M' 97 (doA (kLt (gf h 16)) tvf (gi h 13) (gi h 11) A (dayK H N g).1 (dayK H N g).2.1 (dayK H N g).2.2).2 → TX M M' → (∀ r : Int32, r = b2i (doA (kLt (gf h 16)) tvf (gi h 13) (gi h 11) A (dayK H N g).1 (dayK H N g).2.1 (dayK H N g).2.2).1 → if r = 0 then Wp G (m_X8_live, d + 7, 0, 0, post) (0, 0) 44 [.ref 90, .null, .null, .int (nI many), .int (nI H), .int (nI N), .int (nI c + 0), .int (nI (i + 1)), .null, .null, .null, .null] [] (sm (sj h J3) M') else Wp G (m_X8_live, d + 7, 0, 0, post) (0, 0) 44 [.ref 90, .null, .null, .int (nI many), .int (nI H), .int (nI N), .int (nI (c + 1)), .int (nI (i + 1)), .null, .null, .null, .null] [] (sm (sj h J3) M')) := by
      intro M' hC' hX' r hr
      rw [hr]
      by_cases z : (doA (kLt (gf h 16)) tvf (gi h 13) (gi h 11) A (dayK H N g).1 (dayK H N g).2.1 (dayK H N g).2.2).1 = true
      · rw [z, b2i_t, if_neg (by decide)]
        rw [if_pos z] at k
        exact ih (i + 1) (w + 1) _ (c + 1) _ M' J3 (by omega) (by omega) oN hC' (hX.trans hX') (drG_lt _) hJ3 k
      · rw [if_neg z] at k
        have z : (doA (kLt (gf h 16)) tvf (gi h 13) (gi h 11) A (dayK H N g).1 (dayK H N g).2.1 (dayK H N g).2.2).1 = false := by simpa using z
        rw [z, b2i_f, if_pos rfl, show nI c + 0 = nI c from nI_add c 0]
        exact ih (i + 1) (w + 1) _ c _ M' J3 (by omega) (by omega) oN hC' (hX.trans hX') (drG_lt _) hJ3 k
    clear ih k oN hK
    by_cases c1 : drV (drG (drG (drG g))) 4 < 2
    · rw [if_neg (show ¬ (2 : Int32) ≤ nI (drV (drG (drG (drG g))) 4) from nI_nlen c1 (by decide))]
      have eK : dayK H N g = (0, drV (drG (drG g)) N, drV (drG g) H) := if_pos c1
      rw [eK] at nx
      unfold doA at nx
      rw [if_pos rfl] at nx
      refine ⟨t0, t9.1, s_putIn (d := d) (h := sm (sj h J3) M) t9 hL.lw (by decide) (by omega) (by omega) (by omega) hpos tv hA.1 hC (fun z => ?_) (fun z M' hC' hX' => ?_)⟩
      · rw [if_neg z] at nx
        exact nx M hC TX.rfl' 0 rfl
      · rw [if_pos z] at nx
        exact nx M' hC' hX'.tx 1 rfl
    · rw [if_pos (show (2 : Int32) ≤ nI (drV (drG (drG (drG g))) 4) by rw [i_le, nI_toInt (by omega)]; show (2 : Int) ≤ _; omega)]
      by_cases c2 : drV (drG (drG (drG g))) 4 = 2
      · rw [if_pos (show nI (drV (drG (drG (drG g))) 4) = 2 by rw [c2]; rfl)]
        have eK : dayK H N g = (1, drV (drG g) H, 0) := by unfold dayK; rw [if_neg c1, if_pos c2]
        rw [eK] at nx
        unfold doA at nx
        rw [if_neg (show ¬ (1 : Nat) = 0 by decide), if_pos rfl] at nx
        refine ⟨t0, t9.1, s_takeFrom (d := d + 2) (h := sm (sj h J3) M) t9 hL.lw.1 (by omega) (by omega) hA.1 hC (fun z => ?_) (fun t A' z M' hC' hX' => ?_)⟩
        · rw [if_pos rfl]
          have z : takeA (kLt (gf h 16)) A (drV (drG g) H) = none := z
          rw [z] at nx
          have := nx M hC TX.rfl' 0 rfl
          rwa [if_pos rfl] at this
        · have z : takeA (kLt (gf h 16)) A (drV (drG g) H) = some (t, A') := z
          have tN := (okN_take hA (by omega) (by omega) z).2
          rw [if_neg (nI_nm1 (by omega))]
          rw [z] at nx
          have := nx M' hC' hX'.tx 1 rfl
          rwa [if_neg (by decide)] at this
      · rw [if_neg (show ¬ nI (drV (drG (drG (drG g))) 4) = 2 from fun q => c2 ((nI_inj (b := 2) (by omega) (by decide)).mp q))]
        have eK : dayK H N g = (2, drV (drG g) H, if drV (drG g) H + 1 < H then drV (drG g) H + 1 else 0) := by unfold dayK; rw [if_neg c1, if_neg c2]
        rw [eK] at nx
        unfold doA at nx
        rw [if_neg (show ¬ (2 : Nat) = 0 by decide), if_neg (show ¬ (2 : Nat) = 1 by decide), if_pos rfl] at nx
        refine ⟨t0, ?_⟩
        rw [nI_1 (drV (drG g) H)]
        by_cases c3 : drV (drG g) H + 1 < H
        · rw [if_neg (show ¬ nI H ≤ nI (drV (drG g) H + 1) from nI_nlen c3 (by omega))]
          simp only [if_pos c3] at nx
          refine ⟨t9.1, s_meldInto (d := d) (h := sm (sj h J3) M) t9 hL.lw (by decide) (by omega) (by omega) (by omega) hpos tv hA.1 hC (fun z => by omega) (fun z M' hC' hX' => ?_)⟩
          rw [if_neg z] at nx
          exact nx M' hC' hX'.tx 1 rfl
        · rw [if_pos (show nI H ≤ nI (drV (drG g) H + 1) by rw [i_le, nI_toInt (by omega), nI_toInt (by omega)]; omega)]
          simp only [if_neg c3] at nx
          refine ⟨t9.1, s_meldInto (b := 0) (d := d) (h := sm (sj h J3) M) t9 hL.lw (by decide) (by omega) (by decide) (by omega) hpos tv hA.1 hC (fun z => ?_) (fun z M' hC' hX' => ?_)⟩
          · rw [if_pos z] at nx
            exact nx M hC TX.rfl' 0 rfl
          · rw [if_neg z] at nx
            exact nx M' hC' hX'.tx 1 rfl
/-- none, where there is no HEAP or no ITEM -/
noncomputable def livF (lt : Nat → Nat → Bool) (tvf : Int32 → Nat → Int32 → Int32) (kd skd : Nat → Int32) (H N n g : Nat) (A : AF) : Nat × AF := if H = 0 ∨ N = 0 then (0, A) else dayL lt tvf kd skd H N n g 0 A
theorem s_live {Q : Int32 → pm_H → Prop} {tvf : Int32 → Nat → Int32 → Int32} {f N H many seed w : Nat} {A : AF} (hL : La h) (hf : f ∈ FLs) (hf2 : f ≠ 97) (hH3 : H ≤ 3) (hN : N ≤ 20) (hHi : gi h 4 1 = nI H) (hNi : gi h 8 1 = nI N) (hpos : ∀ al r t, 0 < tvf al r t) (hTV : ∀ J, TVc G d (sj h J) tvf) (hm : many ≤ 99) (hm0 : 0 < many) (hs : seed < 10000) (hw : w + many ≤ 1000) (hA : okN N A w) (hC : CF (gi h) f A) (k : ∀ M' J', (∀ a, a ≠ 90 → J' a = gj h a) → CF M' 97 (livF (kLt (gf h 16)) tvf (gi h 13) (gi h 11) H N many seed A).2 → TX (gi h) M' → Q (nI (livF (kLt (gf h 16)) tvf (gi h 13) (gi h 11) H N many seed A).1) (sm (sj h J') M')) : ci G (d + 7) m_X8_live [.ref 90, .ref f, .int (nI seed), .int (nI many)] h Q := by
  obtain ⟨t0, t1, t2, t3, t4, t5, t6, t7, t8, t9⟩ := hL.tri
  have sep := (FLs_sep f hf hf2).1
  refine ci_wp rfl (Nat.le_of_ble_eq_true rfl) rfl (x_X8_live ?_)
  rw [t2]
  refine ⟨t0, t9.1, s_copyFrom (d := d + 4) t9 (fa_of hL hf) sep hC (fun M1 hC1 hX1 => ⟨t0, ?_⟩)⟩
  rintro _ rfl
  have g90 : gp (sl (sm h M1) 90 6 (nI seed).toInt64) 90 0 = 3 := t1
  have g30 : gp (sl (sm h M1) 90 6 (nI seed).toInt64) 3 0 = 4 := hL.p (by decide +kernel) (by omega)
  have g32 : gp (sl (sm h M1) 90 6 (nI seed).toInt64) 3 2 = 8 := hL.p (by decide +kernel) (by omega)
  have e4 : gi (sl (sm h M1) 90 6 (nI seed).toInt64) 4 1 = nI H := (congrFun (hX1 4 (fun q _ => by omega) (by decide)) 1).trans hHi
  have e8 : gi (sl (sm h M1) 90 6 (nI seed).toInt64) 8 1 = nI N := (congrFun (hX1 8 (fun q _ => by omega) (by decide)) 1).trans hNi
  rw [g90, g30, g32, e4, e8]
  refine ⟨hL.lw.1.1, hL.k (by decide +kernel), hL.k (by decide +kernel), ?_⟩
  have eJ : pm_u (gj (sm h M1)) 90 6 (nI seed).toInt64 90 6 = lN seed := by rw [pm_u_at, nI_l (by omega)]; exact if_pos rfl
  unfold livF at k
  by_cases z : H = 0 ∨ N = 0
  · rw [if_pos z] at k
    refine x_X8_live_44 ?_
    rw [if_neg (show ¬ nI many ≤ 0 from fun q => by have := (nI_le0 (by omega)).mp q; omega)]
    have fin := k M1 (pm_u (gj (sm h M1)) 90 6 (nI seed).toInt64) (fun a ha => pm_u_ne _ _ _ ha) hC1 hX1.tx
    by_cases z1 : H = 0
    · rw [if_pos (show nI H ≤ 0 from (nI_le0 (by omega)).mpr z1)]
      exact ⟨_, rfl, fin⟩
    · rw [if_neg (show ¬ nI H ≤ 0 from fun q => z1 ((nI_le0 (by omega)).mp q)), if_pos (show nI N ≤ 0 from (nI_le0 (by omega)).mpr (by omega))]
      exact ⟨_, rfl, fin⟩
  · rw [if_neg z] at k
    exact s_liveLoop (d := d) (c := 0) hL (by omega) hH3 (by omega) hN hpos hTV hm many 0 w seed A M1 _ (Nat.zero_add _) hw hA hC1 hX1.tx (by omega) ⟨eJ, fun a ha => pm_u_ne _ _ _ ha⟩ (fun M' J' f a b => ⟨_, rfl, k M' J' f a b⟩)
end DAY
section RDA
variable {G : pm_G} {d : Nat} {h : pm_H} {S F P : Nat → Int32}
theorem r_draw {Q : Int32 → pm_H → Prop} {J : Nat → Nat → Int64} {g m : Nat} (hM : Md h) (hg : g < 2147483648) (hJ : JX 446 24 h J g) (hm : 0 < m) (hm2 : m < 2 ^ 31) (k : ∀ J', JX 446 24 h J' (drG g) → Q (nI (drV (drG g) m)) (s8 (fp (sj h J') F P) S)) : ci G (d + 1) m_X12_draw [.ref 446, .int (nI m)] (s8 (fp (sj h J) F P) S) Q := by
  refine ci_wp rfl (Nat.le_of_ble_eq_true rfl) rfl (x_X12_draw ⟨hM.1, ?_⟩)
  rintro _ rfl
  have e : gj (s8 (fp (sj h J) F P) S) 446 24 = lN g := hJ.1
  rw [e, dr_stp hg]
  have eJ : pm_u (gj (s8 (fp (sj h J) F P) S)) 446 24 (lN (drG g)) 446 24 = lN (drG g) := by rw [pm_u_at]; exact if_pos rfl
  have e2 : gj (sl (s8 (fp (sj h J) F P) S) 446 24 (lN (drG g))) 446 24 = lN (drG g) := eJ
  rw [e2, dr_val (drG_lt g) hm hm2]
  exact ⟨dr_nz hm hm2, _, rfl, k _ ⟨eJ, fun a ha => (pm_u_ne _ _ _ ha).trans (hJ.2 a ha)⟩⟩
theorem i_rem {a b : Nat} (ha : a < 2 ^ 31) (h0 : 0 < b) (hb : b < 2 ^ 31) : nI a - nI a / nI b * nI b = nI (a % b) := pk_rem ha h0 hb
theorem r_drawsDeed {Q : Int32 → pm_H → Prop} {tvf : Int32 → Nat → Int32 → Int32} {N H w g : Nat} {A : AF} {J : Nat → Nat → Int64} (hL : La h) (hHi : gi h 452 0 = nI H) (hNi : gi h 452 2 = nI N) (hH : 0 < H) (hH3 : H ≤ 3) (hN0 : 0 < N) (hN : N ≤ 20) (hpos : ∀ al r t, 0 < tvf al r t) (hG : ∀ J, GRc G (d + 20) (sj h J) tvf) (hw : w + 1 ≤ 1000) (hA : okN N A w) (hC : RA (gi h 460) S 3795 A) (hg : g < 2147483648) (hJ : JX 446 24 h J g) (k : ∀ S' F' P' J', JX 446 24 h J' (drG (drG (drG g))) → RA (gi h 460) S' 3795 (doA (rLt (gi h 460)) tvf (fun u => gi h 452 (7 + 4 * u)) (fun s => gi h 452 (5 + s)) A (dayK H N g).1 (dayK H N g).2.1 (dayK H N g).2.2).2 → RZ S S' 3795 → Q (b2i (doA (rLt (gi h 460)) tvf (fun u => gi h 452 (7 + 4 * u)) (fun s => gi h 452 (5 + s)) A (dayK H N g).1 (dayK H N g).2.1 (dayK H N g).2.2).1) (s8 (fp (sj h J') F' P') S')) : ci G (d + 24) m_X12_drawsDeed [.ref 446] (s8 (fp (sj h J) F P) S) Q := by
  have a1 : drV (drG g) H < H := drV_lt _ hH
  have a2 : drV (drG (drG g)) N < N := drV_lt _ hN0
  have a3 : drV (drG (drG (drG g))) 4 < 4 := drV_lt _ (by decide)
  have hK := dayK_ok (g := g) hH hH3 hN0
  refine ci_wp rfl (Nat.le_of_ble_eq_true rfl) rfl (x_X12_drawsDeed ⟨hL.md.1, r_heaps (h := sj h J) (d := d + 22) hL.mk hHi ⟨hL.md.1, r_draw (d := d + 22) hL.md hg hJ hH (by omega) (fun J1 hJ1 => ⟨hL.md.1, r_items (h := sj h J1) (d := d + 22) hL.mk hNi ⟨hL.md.1, r_draw (d := d + 22) hL.md (drG_lt _) hJ1 hN0 (by omega) (fun J2 hJ2 => ⟨hL.md.1, r_draw (m := 4) (d := d + 22) hL.md (drG_lt _) hJ2 (by decide) (by decide) (fun J3 hJ3 => ?_)⟩)⟩⟩)⟩⟩)
  by_cases c1 : drV (drG (drG (drG g))) 4 < 2
  · rw [if_neg (show ¬ (2 : Int32) ≤ nI (drV (drG (drG (drG g))) 4) from nI_nlen c1 (by decide))]
    have eK : dayK H N g = (0, drV (drG (drG g)) N, drV (drG g) H) := if_pos c1
    rw [eK] at k hK
    refine ⟨hL.md.1, r_doesLine (k := 0) (h := sj h J3) (d := d) hL.mk hNi hpos (hG J3) hN (by decide) hK (fun q => absurd (show (0 : Nat) = 2 from q) (by decide)) (fun _ => rfl) hw hA hC (fun S' F' P' hC' hZ => ⟨?_, _, rfl, k S' F' P' J3 hJ3 hC' hZ⟩)⟩
    generalize (doA (rLt (gi (sj h J3) 460)) tvf (fun u => gi (sj h J3) 452 (7 + 4 * u)) (fun s => gi (sj h J3) 452 (5 + s)) A 0 (drV (drG (drG g)) N) (drV (drG g) H)).1 = b
    cases b <;> simp [b2i]
  · rw [if_pos (show (2 : Int32) ≤ nI (drV (drG (drG (drG g))) 4) by rw [i_le, nI_toInt (by omega)]; show (2 : Int) ≤ _; omega)]
    by_cases c2 : drV (drG (drG (drG g))) 4 = 2
    · rw [if_pos (show nI (drV (drG (drG (drG g))) 4) = 2 by rw [c2]; rfl)]
      have eK : dayK H N g = (1, drV (drG g) H, 0) := by unfold dayK; rw [if_neg c1, if_pos c2]
      rw [eK] at k hK
      refine ⟨hL.md.1, r_doesLine (k := 1) (h := sj h J3) (d := d) hL.mk hNi hpos (hG J3) hN (by decide) hK (fun q => absurd (show (1 : Nat) = 2 from q) (by decide)) (fun q => absurd rfl q) hw hA hC (fun S' F' P' hC' hZ => ⟨?_, _, rfl, k S' F' P' J3 hJ3 hC' hZ⟩)⟩
      generalize (doA (rLt (gi (sj h J3) 460)) tvf (fun u => gi (sj h J3) 452 (7 + 4 * u)) (fun s => gi (sj h J3) 452 (5 + s)) A 1 (drV (drG g) H) 0).1 = b
      cases b <;> simp [b2i]
    · rw [if_neg (show ¬ nI (drV (drG (drG (drG g))) 4) = 2 from fun q => c2 ((nI_inj (b := 2) (by omega) (by decide)).mp q))]
      have eK : dayK H N g = (2, drV (drG g) H, if drV (drG g) H + 1 < H then drV (drG g) H + 1 else 0) := by unfold dayK; rw [if_neg c1, if_neg c2]
      rw [eK] at k hK
      have em : (drV (drG g) H + 1) % H = if drV (drG g) H + 1 < H then drV (drG g) H + 1 else 0 := by
        split
        next q => exact Nat.mod_eq_of_lt q
        next q => rw [show drV (drG g) H + 1 = H by omega, Nat.mod_self]
      refine ⟨hL.md.1, r_heaps (h := sj h J3) (d := d + 22) hL.mk hHi ⟨fun q => by have := (nI_inj (b := 0) (by omega) (by decide)).mp q; omega, ?_⟩⟩
      rw [nI_1, i_rem (by omega) hH (by omega), em]
      by_cases c4 : drV (drG g) H = if drV (drG g) H + 1 < H then drV (drG g) H + 1 else 0
      · rw [if_pos (by rw [← c4])]
        have := k S F P J3 hJ3
        unfold doA at this
        rw [if_neg (show ¬ (2 : Nat) = 0 by decide), if_neg (show ¬ (2 : Nat) = 1 by decide), if_pos rfl, if_pos c4] at this
        exact ⟨_, rfl, this hC RZ.rfl'⟩
      · have c5 : (if drV (drG g) H + 1 < H then drV (drG g) H + 1 else 0) < 2 ^ 31 := by split <;> omega
        rw [if_neg (fun q => c4 ((nI_inj c5 (by omega)).mp q).symm)]
        refine ⟨hL.md.1, r_doesLine (k := 2) (h := sj h J3) (d := d) hL.mk hNi hpos (hG J3) hN (by decide) hK (fun _ => c4) (fun _ => rfl) hw hA hC (fun S' F' P' hC' hZ => ?_)⟩
        have := k S' F' P' J3 hJ3 hC' hZ
        revert this
        show Q (b2i (doA (rLt (gi h 460)) tvf (fun u => gi h 452 (7 + 4 * u)) (fun s => gi h 452 (5 + s)) A 2 (drV (drG g) H) (if drV (drG g) H + 1 < H then drV (drG g) H + 1 else 0)).1) _ → (if b2i (doA (rLt (gi h 460)) tvf (fun u => gi h 452 (7 + 4 * u)) (fun s => gi h 452 (5 + s)) A 2 (drV (drG g) H) (if drV (drG g) H + 1 < H then drV (drG g) H + 1 else 0)).1 = 0 then _ else _)
        generalize (doA (rLt (gi h 460)) tvf (fun u => gi h 452 (7 + 4 * u)) (fun s => gi h 452 (5 + s)) A 2 (drV (drG g) H) (if drV (drG g) H + 1 < H then drV (drG g) H + 1 else 0)).1 = b
        cases b with
        | true => rw [b2i_t, if_neg (by decide)]; exact fun q => ⟨_, rfl, q⟩
        | false => rw [b2i_f, if_pos rfl]; exact fun q => ⟨_, rfl, q⟩
theorem r_daysLoop {post : pm_PT} {tvf : Int32 → Nat → Int32 → Int32} {N H many : Nat} {what : Int32} (hL : La h) (hHi : gi h 452 0 = nI H) (hNi : gi h 452 2 = nI N) (hH : 0 < H) (hH3 : H ≤ 3) (hN0 : 0 < N) (hN : N ≤ 20) (hpos : ∀ al r t, 0 < tvf al r t) (hG : ∀ J, GRc G (d + 20) (sj h J) tvf) (hm : many ≤ 99) : ∀ (j i w g c : Nat) (A : AF) (S F P : Nat → Int32) (J : Nat → Nat → Int64), i + j = many → w + j ≤ 1000 → okN N A w → RA (gi h 460) S 3795 A → g < 2147483648 → JX 446 24 h J g → (∀ S' F' P' J', (∀ a, a ≠ 446 → J' a = gj h a) → RA (gi h 460) S' 3795 (dayL (rLt (gi h 460)) tvf (fun u => gi h 452 (7 + 4 * u)) (fun s => gi h 452 (5 + s)) H N j g c A).2 → RZ S S' 3795 → Wp G (m_X12_days, d + 25, 0, 0, post) (0, 0) 113 [.ref 446, .null, .null, .int what, .int (nI (dayL (rLt (gi h 460)) tvf (fun u => gi h 452 (7 + 4 * u)) (fun s => gi h 452 (5 + s)) H N j g c A).1), .null] [] (s8 (fp (sj h J') F' P') S')) → Wp G (m_X12_days, d + 25, 0, 0, post) (0, 0) 70 [.ref 446, .null, .int (nI many), .int what, .int (nI c), .int (nI i)] [] (s8 (fp (sj h J) F P) S) := by
  intro j
  induction j with
  | zero =>
    intro i w g c A S F P J hi hw hA hC hg hJ k
    refine x_X12_days_70 ?_
    rw [if_pos (show nI many ≤ nI i by rw [show i = many by omega]; exact Int32.le_refl _)]
    exact k S F P J hJ.2 hC RZ.rfl'
  | succ j ih =>
    intro i w g c A S F P J hi hw hA hC hg hJ k
    rw [dayL] at k
    refine x_X12_days_70 ?_
    rw [if_neg (show ¬ nI many ≤ nI i from nI_nlen (by omega) (by omega))]
    refine ⟨hL.md.1, r_heaps (h := sj h J) (d := d + 23) hL.mk hHi ?_⟩
    rw [if_neg (show ¬ nI H ≤ 0 from fun q => by have := (nI_le0 (by omega)).mp q; omega)]
    refine ⟨hL.md.1, r_items (h := sj h J) (d := d + 23) hL.mk hNi ?_⟩
    rw [if_neg (show ¬ nI N ≤ 0 from fun q => by have := (nI_le0 (by omega)).mp q; omega), nI_1, nI_1]
    have hK := dayK_ok (g := g) hH hH3 hN0
    have oN := okN_do (lt := rLt (gi h 460)) (kd := fun u => gi h 452 (7 + 4 * u)) (skd := fun s => gi h 452 (5 + s)) hA hN hK (by omega) hpos
    refine ⟨hL.md.1, r_drawsDeed (d := d) hL hHi hNi hH hH3 hN0 hN hpos hG (by omega) hA hC hg hJ (fun S' F' P' J' hJ' hC' hZ => ?_)⟩
    by_cases z : (doA (rLt (gi h 460)) tvf (fun u => gi h 452 (7 + 4 * u)) (fun s => gi h 452 (5 + s)) A (dayK H N g).1 (dayK H N g).2.1 (dayK H N g).2.2).1 = true
    · rw [z, b2i_t, if_neg (by decide)]
      rw [if_pos z] at k
      exact ih (i + 1) (w + 1) _ (c + 1) _ S' F' P' J' (by omega) (by omega) oN hC' (drG_lt _) hJ' (fun S2 F2 P2 J2 f a b => k S2 F2 P2 J2 f a (hZ.trans b))
    · rw [if_neg z] at k
      have z : (doA (rLt (gi h 460)) tvf (fun u => gi h 452 (7 + 4 * u)) (fun s => gi h 452 (5 + s)) A (dayK H N g).1 (dayK H N g).2.1 (dayK H N g).2.2).1 = false := by simpa using z
      rw [z, b2i_f, if_pos rfl, show nI c + 0 = nI c from nI_add c 0]
      exact ih (i + 1) (w + 1) _ c _ S' F' P' J' (by omega) (by omega) oN hC' (drG_lt _) hJ' (fun S2 F2 P2 J2 f a b => k S2 F2 P2 J2 f a (hZ.trans b))
end RDA
