/-! THE REFERENCE: SHELVE; all moves, starts -/
section RST
variable {G : pm_G} {d : Nat} {h : pm_H} {S F P : Nat → Int32}
theorem r_shelves {Q : Int32 → pm_H → Prop} {a b s w N : Nat} {A : AF} (hM : Mk h) (hN : gi h 452 2 = nI N) (hN2 : N ≤ 20) (hb : b + 320 ≤ 4485) (ha : a < 3) (hs : s < 2) (hw : w ≤ 1000) (hA : okA A w) (hS : okS A) (hC : RA (gi h 460) S b A) (hn : ∀ u, N ≤ u → u < 20 → A.2.2.1 u = -1) (hne : takeA (rLt (gi h 460)) A a ≠ none)
    (k : ∀ S', RA (gi h 460) S' b (shelveA (rLt (gi h 460)) (fun u => gi h 452 (7 + 4 * u)) (fun s => gi h 452 (5 + s)) A a s).2 → RZ S S' b → Q (shelveA (rLt (gi h 460)) (fun u => gi h 452 (7 + 4 * u)) (fun s => gi h 452 (5 + s)) A a s).1 (s8 (fp h F P) S')) : ci G (d + 21) m_X12_shelves [.ref 446, .int (nI b), .int (nI a), .int (nI s)] (s8 (fp h F P) S) Q := by
  refine ci_wp rfl (Nat.le_of_ble_eq_true rfl) rfl (x_X12_shelves ⟨hM.1.1, r_takes (d := d) (h := fp h F P) (ky := gi h 460) hM.1 hb ha hw hA hC (fun e => absurd e hne) (fun t A' e S1 hR hZ => ?_)⟩)
  unfold shelveA at k
  rw [e] at k
  dsimp only at k
  obtain ⟨hA', ht, hta, e1, e2⟩ := okA_take hA ha hw e
  have hS' : okS A' := okS_sp hS e2
  have hn' : ∀ u, N ≤ u → u < 20 → A'.2.2.1 u = -1 := fun u h1 h2 => by rw [e2]; exact hn u h1 h2
  refine ⟨hM.1.1, r_itemOf (d := d + 19) (w := 0) hM (by omega) ?_⟩
  have g10 : gp (s8 (fp h F P) S1) 446 10 = 452 := hM.2.2.2.1
  rw [g10, sfgi h S1 F P (by decide) (by decide) (by decide), show (5 : Int32) = nI 5 from rfl, nI_add, cl_nI (show 5 + s < 2 ^ 31 by omega)]
  refine ⟨hM.1.1, 180, hM.2.2.2.2, vp_nI (by omega) (by decide), ?_⟩
  have hfull := shelf_full hS' hs
  by_cases c : gi h 452 (7 + 4 * t + 0) = gi h 452 (5 + s)
  · rw [if_pos c]
    refine r_shelvedOn (d := d + 18) (sv := A'.2.2.1) hM hN hN2 hb (fun u hu => (hR.2 u hu).2.1) hn' hs ?_
    cases hp : freeP A'.2.2.1 A'.2.2.2 (nI s) with
    | none =>
      rw [hp] at k
      rw [hfull.mpr hp, if_pos (show nI 4 = 4 from rfl)]
      exact ⟨_, rfl, k S1 hR hZ⟩
    | some p =>
      rw [hp] at k
      dsimp only at k
      rw [if_pos (show gi h 452 (7 + 4 * t) = gi h 452 (5 + s) from c)] at k
      have hne4 : cnt (fun u => decide (A'.2.2.1 u = nI s)) 20 ≠ 4 := fun q => by
        rw [hfull.mp q] at hp; cases hp
      have hc20 := cnt_le (fun u => decide (A'.2.2.1 u = nI s)) 20
      rw [if_neg (show ¬ nI (cnt (fun u => decide (A'.2.2.1 u = nI s)) 20) = 4 from fun q => hne4 ((nI_eq (show cnt (fun u => decide (A'.2.2.1 u = nI s)) 20 < 2 ^ 31 by omega) (by decide)).mp (show nI _ = nI 4 from q)))]
      obtain ⟨p1, p2, p3, p4⟩ := freeF_some (Nat.le_refl _) hp
      refine up_to (P := fun n => Wp G (m_X12_shelves, d + 20 + 1, 0, 0, fun v h1 => ∃ r, v = some (.int r) ∧ Q r h1) (0, 0) 41 [.ref 446, .int (nI b), .null, .int (nI s), .int (nI t), .int (nI n)] [] (s8 (fp h F P) S1)) p (fun n hnp ih => ?_) ?_
      · refine x_X12_shelves_41 ⟨hM.1.1, r_isTaken (d := d + 18) (sv := A'.2.2.1) (pl := A'.2.2.2) hM hN hN2 hb (fun u hu => (hR.2 u hu).2) hn' hs ?_⟩
        have z : ¬ (if afree A'.2.2.1 A'.2.2.2 (nI s) (nI n) 20 = true then (0 : Int32) else 1) = 0 := by
          rw [p4 n (by omega) hnp, if_neg (by decide)]; decide
        rw [if_neg z, nI_1]
        exact ih
      · refine x_X12_shelves_41 ⟨hM.1.1, r_isTaken (d := d + 18) (sv := A'.2.2.1) (pl := A'.2.2.2) hM hN hN2 hb (fun u hu => (hR.2 u hu).2) hn' hs ?_⟩
        have z : (if afree A'.2.2.1 A'.2.2.2 (nI s) (nI p) 20 = true then (0 : Int32) else 1) = 0 := if_pos p3
        rw [if_pos z]
        have g17 : ∀ S', gp (s8 (fp h F P) S') 446 17 = 458 := fun _ => hM.1.2.1
        rw [g17, show (260 : Int32) = nI 260 from rfl, show (280 : Int32) = nI 280 from rfl, ixg, ixg, cl_nI (show b + 260 + t < 2 ^ 31 by omega), cl_nI (show b + 280 + t < 2 ^ 31 by omega)]
        refine ⟨hM.1.1, 4485, hM.1.2.2, vp_nI (by omega) (by decide), ?_⟩
        rintro _ rfl
        rw [s8_si, g17]
        refine ⟨4485, hM.1.2.2, vp_nI (by omega) (by decide), ?_⟩
        rintro _ rfl
        rw [s8_si]
        refine ⟨_, rfl, k _ ⟨⟨fun a' r' ha' hr' => ⟨?_, ?_⟩, trivial, fun j hj hj2 => ?_⟩, fun u hu => ?_⟩ ((hZ.trans (RZ.u (by omega) (by omega))).trans (RZ.u (by omega) (by omega)))⟩
        · exact NR.keep (fun n j hn hj => by rw [up1_ne _ _ (by omega), up1_ne _ _ (by omega)]) (fun u hu => by rw [up1_ne _ _ (by omega), up1_ne _ _ (by omega)]) (hR.1.1 a' r' ha' hr').1
        · rw [up1_ne _ _ (by omega), up1_ne _ _ (by omega)]; exact (hR.1.1 a' r' ha' hr').2
        · rw [up1_ne _ _ (by omega), up1_ne _ _ (by omega)]; exact hR.1.2.2 j hj hj2
        · obtain ⟨z1, z2, z3⟩ := hR.2 u hu
          refine ⟨?_, ?_, ?_⟩
          · rw [up1_ne _ _ (by omega), up1_ne _ _ (by omega)]; exact z1
          · rw [up1_ne _ _ (by omega)]
            by_cases y : u = t
            · subst y; exact (up1_at _ _ _).trans (up1_at _ _ _).symm
            · rw [up1_ne _ _ (by omega), z2]; exact (up1_ne _ _ y).symm
          · by_cases y : u = t
            · subst y; exact (up1_at _ _ _).trans (up1_at _ _ _).symm
            · rw [up1_ne _ _ (by omega), up1_ne _ _ (by omega), z3]; exact (up1_ne _ _ y).symm
  · rw [if_neg c]
    cases hp : freeP A'.2.2.1 A'.2.2.2 (nI s) with
    | none =>
      rw [hp] at k
      exact ⟨_, rfl, k S1 hR hZ⟩
    | some p =>
      rw [hp] at k
      dsimp only at k
      rw [if_neg (show ¬ gi h 452 (7 + 4 * t) = gi h 452 (5 + s) from c)] at k
      exact ⟨_, rfl, k S1 hR hZ⟩
/-- a stretch copied -/
def mvS (S : Nat → Int32) (a c n : Nat) : Nat → Int32 := fun i => if c ≤ i ∧ i < c + n then S (a + (i - c)) else S i
theorem r_moves {a c n : Nat} {Q : pm_H → Prop} (hM : Md h) (h1 : a + n ≤ 4485) (h2 : c + n ≤ 4485) (hd : a + n ≤ c ∨ c + n ≤ a) (k : Q (s8 h (mvS S a c n))) : cv G (d + 1) m_X12_moves [.ref 446, .int (nI a), .int (nI c), .int (nI n)] (s8 h S) Q := by
  refine cv_wp rfl (Nat.le_of_ble_eq_true rfl) rfl (x_X12_moves ?_)
  have key := up_to (P := fun j => Wp G (m_X12_moves, d + 1, 0, 0, fun v h1 => v = none ∧ Q h1) (0, 0) 3 [.ref 446, .int (nI a), .int (nI c), .int (nI n), .int (nI j)] [] (s8 h (mvS S a c j))) n (fun j hj ih => ?_) ?_
  · have e : mvS S a c 0 = S := by funext i; unfold mvS; rw [if_neg (by omega)]
    rw [e] at key; exact key
  · refine x_X12_moves_3 ?_
    have g17 : gp (s8 h (mvS S a c j)) 446 17 = 458 := hM.2.1
    rw [if_neg (show ¬ nI n ≤ nI j from nI_nlen hj (by omega)), g17, nI_add, nI_add, cl_nI (by omega), cl_nI (by omega), s8_gi, nI_1]
    refine ⟨hM.1, 4485, hM.2.2, vp_nI (by omega) (by decide), vp_nI (by omega) (by decide), ?_⟩
    rintro _ rfl
    rw [s8_si]
    have e : up1 (mvS S a c j) (c + j) (mvS S a c j (a + j)) = mvS S a c (j + 1) := by
      funext i
      have e0 : mvS S a c j (a + j) = S (a + j) := if_neg (by omega)
      rw [e0]
      unfold up1 mvS
      by_cases q : i = c + j
      · rw [if_pos q, if_pos (by omega), show a + (i - c) = a + j by omega]
      · rw [if_neg q]
        by_cases q2 : c ≤ i ∧ i < c + j
        · rw [if_pos q2, if_pos (by omega)]
        · rw [if_neg q2, if_neg (by omega)]
    rw [e]
    exact ih
  · refine x_X12_moves_3 ?_
    rw [if_pos (show nI n ≤ nI n from Int32.le_refl _)]
    exact ⟨rfl, k⟩
theorem NR.move {ky S' : Nat → Int32} {a c : Nat} (hm : ∀ i, i < 320 → S' (c + i) = S (a + i)) : ∀ {T : Tr}, NR ky S a T → NR ky S' c T
  | .leaf, _ => trivial
  | .inner _ k _ l r, ⟨⟨h0, h1, h2, h3, h4, h5, h6, h7, h8, h9, h10⟩, hl, hr⟩ => by
    have e : ∀ j, j < 8 → S' (c + 8 * k.1 + j) = S (a + 8 * k.1 + j) := fun j hj => by
      rw [show c + 8 * k.1 + j = c + (8 * k.1 + j) by omega, show a + 8 * k.1 + j = a + (8 * k.1 + j) by omega]; exact hm _ (by omega)
    exact ⟨⟨h0, (e 0 (by decide)).trans h1, (e 1 (by decide)).trans h2, fun q => (e 2 (by decide)).trans (h3 q), (e 3 (by decide)).trans h4, (e 4 (by decide)).trans h5, fun q => (e 5 (by decide)).trans (h6 q), (e 6 (by decide)).trans h7, (e 7 (by decide)).trans h8, LC.congr (fun t ht => by
      have := h10 t ht
      show S' (c + 300 + t) = S (a + 300 + t)
      rw [Nat.add_assoc, Nat.add_assoc]; exact hm _ (by omega)) h9, h10⟩, hl.move hm, hr.move hm⟩
theorem RA.move {ky S' : Nat → Int32} {a c : Nat} {A : AF} (hm : ∀ i, i < 320 → S' (c + i) = S (a + i)) (h : RA ky S a A) : RA ky S' c A := by
  have e : ∀ x y, x + y < 320 → S' (c + x + y) = S (a + x + y) := fun x y hxy => by
    rw [Nat.add_assoc, Nat.add_assoc]; exact hm _ hxy
  refine ⟨⟨fun a' r' ha' hr' => ⟨(h.1.1 a' r' ha' hr').1.move hm, ?_⟩, trivial, fun j hj hj2 => (hm _ (by omega)).trans (h.1.2.2 j hj hj2)⟩, fun u hu => ⟨(e 240 u (by omega)).trans (h.2 u hu).1, (e 260 u (by omega)).trans (h.2 u hu).2.1, (e 280 u (by omega)).trans (h.2 u hu).2.2⟩⟩
  rw [← (h.1.1 a' r' ha' hr').2, show c + 192 + 16 * a' + r' = c + (192 + 16 * a') + r' by omega, show a + 192 + 16 * a' + r' = a + (192 + 16 * a') + r' by omega]
  exact e _ _ (by omega)
theorem mvS_at {a c n i : Nat} (hi : i < n) : mvS S a c n (c + i) = S (a + i) := by
  unfold mvS
  rw [if_pos (by omega), show a + (c + i - c) = a + i by omega]
theorem r_empties {ky : Nat → Int32} {b : Nat} {Q : pm_H → Prop} (hM : Md h) (hb : b + 320 ≤ 4485) (k : ∀ S', RA ky S' b A0 → RZ S S' b → Q (s8 h S')) : cv G (d + 1) m_X12_empties [.ref 446, .int (nI b)] (s8 h S) Q := by
  refine cv_wp rfl (Nat.le_of_ble_eq_true rfl) rfl (x_X12_empties ?_)
  have key := up_to (P := fun j => ∀ S', (∀ i, i < j → S' (b + i) = -1) → (∀ i, i < b ∨ b + j ≤ i → S' i = S i) → Wp G (m_X12_empties, d + 1, 0, 0, fun v h1 => v = none ∧ Q h1) (0, 0) 2 [.ref 446, .int (nI b), .int (nI j)] [] (s8 h S')) 320 (fun j hj ih => ?_) ?_
  · exact key S (fun i hi => absurd hi (Nat.not_lt_zero _)) (fun _ _ => rfl)
  · intro S' e1 e2
    refine x_X12_empties_2 ?_
    have g17 : gp (s8 h S') 446 17 = 458 := hM.2.1
    rw [if_neg (li_no 320 320 rfl hj (by decide)), g17, nI_add, cl_nI (by omega), nI_1]
    refine ⟨hM.1, 4485, hM.2.2, vp_nI (by omega) (by decide), ?_⟩
    rintro _ rfl
    rw [s8_si]
    refine ih _ (fun i hi => ?_) (fun i hi => ?_)
    · by_cases q : i = j
      · subst q; exact up1_at _ _ _
      · rw [up1_ne _ _ (by omega)]; exact e1 i (by omega)
    · rw [up1_ne _ _ (by omega)]; exact e2 i (by omega)
  · intro S' e1 e2
    refine x_X12_empties_2 ?_
    rw [if_pos (li_yes 320 320 rfl)]
    refine ⟨rfl, k S' ⟨⟨fun a' r' ha' hr' => ⟨trivial, ?_⟩, trivial, fun j hj _ => e1 _ (by omega)⟩, fun u hu => ⟨?_, ?_, ?_⟩⟩ e2⟩
    · rw [show b + 192 + 16 * a' + r' = b + (192 + 16 * a' + r') by omega]; exact e1 _ (by omega)
    · rw [Nat.add_assoc]; exact e1 _ (by omega)
    · rw [Nat.add_assoc]; exact e1 _ (by omega)
    · rw [Nat.add_assoc]; exact e1 _ (by omega)
theorem r_starts {Q : pm_H → Prop} {tvf : Int32 → Nat → Int32 → Int32} {b N : Nat} {hm : Nat → Nat} (hM : Mk h) (hN : gi h 452 2 = nI N) (hN2 : N ≤ 20) (hb : b + 320 ≤ 4485) (hpos : ∀ al r t, 0 < tvf al r t) (hG : GRc G (d + 20) h tvf) (hh : ∀ t, t < N → hm t < 3 ∧ gi h 452 (7 + 4 * t + 3) = nI (hm t))
    (k : ∀ S' F' P', RA (gi h 460) S' b (tellF (rLt (gi h 460)) tvf hm N) → RZ S S' b → Q (s8 (fp h F' P') S')) : cv G (d + 23) m_X12_starts [.ref 446, .int (nI b)] (s8 (fp h F P) S) Q := by
  refine cv_wp rfl (Nat.le_of_ble_eq_true rfl) rfl (x_X12_starts ⟨hM.1.1, r_empties (d := d + 21) (h := fp h F P) (ky := gi h 460) hM.1 hb (fun S0 hR0 hZ0 => ?_)⟩)
  have key := up_to (P := fun j => ∀ S1 F P, RA (gi h 460) S1 b (tellF (rLt (gi h 460)) tvf hm j) → RZ S S1 b → Wp G (m_X12_starts, d + 22 + 1, 0, 0, fun v h1 => v = none ∧ Q h1) (0, 0) 7 [.ref 446, .int (nI b), .int (nI j)] [] (s8 (fp h F P) S1)) N (fun j hj ih => ?_) ?_
  · exact key S0 F P hR0 hZ0
  · intro S1 F P hR hZ
    obtain ⟨o1, o2⟩ := tellF_ok (lt := rLt (gi h 460)) (tvf := tvf) (hm := hm) hpos j (by omega) (fun t ht => (hh t (by omega)).1)
    refine x_X12_starts_7 ⟨hM.1.1, r_items (d := d + 21) hM hN ?_⟩
    rw [if_neg (show ¬ nI N ≤ nI j from nI_nlen hj (by omega))]
    refine ⟨hM.1.1, r_itemOf (d := d + 21) (w := 3) hM (by omega) ?_⟩
    rw [(hh j hj).2]
    refine ⟨hM.1.1, r_puts (d := d) hM hb (hh j hj).1 (by omega) (by omega) hpos hG o1 hR (o2 j (Nat.le_refl _)) (fun S2 F2 P2 hR2 hZ2 => ?_)⟩
    rw [nI_1]
    exact ih S2 F2 P2 hR2 (hZ.trans hZ2)
  · intro S1 F P hR hZ
    refine x_X12_starts_7 ⟨hM.1.1, r_items (d := d + 21) hM hN ?_⟩
    rw [if_pos (show nI N ≤ nI N from Int32.le_refl _)]
    exact ⟨rfl, k S1 F P hR hZ⟩
end RST
