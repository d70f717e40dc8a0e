/-! THE REFERENCE: MELD -/
theorem moveA_leaf {lt : Nat → Nat → Bool} {tvf : Int32 → Nat → Int32 → Int32} {A : AF} {w a b r : Nat} (h : okA A w) (ha : a < 3) (hb : b < 3) (hab : a ≠ b) (hr : r < 24) (hw : w ≤ 1000) (hpos : ∀ al r g, 0 < tvf al r g) :
    isL ((moveA lt tvf A a b r).1 (24 * a + r)) = true ∧ ∀ r', r' < 24 → r' ≠ r → (moveA lt tvf A a b r).1 (24 * a + r') = A.1 (24 * a + r') := by
  unfold moveA
  split
  next c => exact ⟨c, fun _ _ _ => rfl⟩
  next c =>
    have c' : isL (A.1 (24 * a + r)) = false := by simpa using c
    have hq : 24 * a + r < 72 := by omega
    obtain ⟨w1, w2⟩ := wf_out h.1 hq c'
    have w2 : tr_rk (A.1 (24 * a + r)) = r := by omega
    obtain ⟨z1, z2, z3⟩ := joinF_ok (lt := lt) (tv := tvf (hcount (fun u => if u ∈ tr_its (A.1 (24 * a + r)) then nI b else A.2.1 u) b)) hb hw (hpos _) (24 - r) r (up1 A.1 (24 * a + r) .leaf) (A.1 (24 * a + r)) (by omega) w1 c' w2
    refine ⟨?_, fun r' h1 h2 => ?_⟩
    · show isL (joinF _ _ _ _ _ _ _ _) = true
      rw [z2 _ hq (by omega), up1_at]; rfl
    · show joinF _ _ _ _ _ _ _ _ = _
      rw [z2 _ (by omega) (by omega), up1_ne _ _ (by omega)]
theorem meldF_leaf {lt : Nat → Nat → Bool} {tvf : Int32 → Nat → Int32 → Int32} {A : AF} {w a b : Nat} (h : okA A w) (ha : a < 3) (hb : b < 3) (hab : a ≠ b) (hw : w ≤ 1000) (hpos : ∀ al r g, 0 < tvf al r g) :
    ∀ n, n ≤ 24 → (∀ r, r < n → isL ((meldF lt tvf a b n A).1 (24 * a + r)) = true) ∧ ∀ u, u < 20 → (meldF lt tvf a b n A).2.1 u = A.2.1 u ∨ (A.2.1 u = nI a ∧ (meldF lt tvf a b n A).2.1 u = nI b)
  | 0, _ => ⟨fun r hr => absurd hr (Nat.not_lt_zero _), fun _ _ => Or.inl rfl⟩
  | n + 1, hn => by
    obtain ⟨h1, h2⟩ := meldF_leaf (lt := lt) (tvf := tvf) h ha hb hab hw hpos n (by omega)
    have hok := okA_meldF (lt := lt) (tvf := tvf) h ha hb hab hw hpos n (by omega)
    obtain ⟨m1, m2⟩ := moveA_leaf (lt := lt) (tvf := tvf) hok ha hb hab (show n < 24 by omega) hw hpos
    refine ⟨fun r hr => ?_, fun u hu => ?_⟩
    · by_cases q : r = n
      · subst q; exact m1
      · show isL ((moveA lt tvf (meldF lt tvf a b n A) a b n).1 (24 * a + r)) = true
        rw [m2 r (by omega) q]
        exact h1 r (by omega)
    · show (moveA lt tvf (meldF lt tvf a b n A) a b n).2.1 u = _ ∨ _ ∧ (moveA lt tvf (meldF lt tvf a b n A) a b n).2.1 u = _
      by_cases c : isL ((meldF lt tvf a b n A).1 (24 * a + n)) = true
      · unfold moveA; rw [if_pos c]; exact h2 u hu
      · have e : (moveA lt tvf (meldF lt tvf a b n A) a b n).2.1 u = if u ∈ tr_its ((meldF lt tvf a b n A).1 (24 * a + n)) then nI b else (meldF lt tvf a b n A).2.1 u := by
          unfold moveA; rw [if_neg c]
        rw [e]
        by_cases c2 : u ∈ tr_its ((meldF lt tvf a b n A).1 (24 * a + n))
        · rw [if_pos c2]
          have hB := (hok.2.2 u a hu ha).mpr ⟨n, by omega, c2⟩
          rcases h2 u hu with q | ⟨q1, q2⟩
          · exact Or.inr ⟨q ▸ hB, rfl⟩
          · rw [q2, nI_eq (by omega) (by omega)] at hB
            exact absurd hB.symm hab
        · rw [if_neg c2]; exact h2 u hu
theorem meldA_hp {lt : Nat → Nat → Bool} {tvf : Int32 → Nat → Int32 → Int32} {A : AF} {w a b : Nat} (h : okA A w) (ha : a < 3) (hb : b < 3) (hab : a ≠ b) (hw : w ≤ 1000) (hpos : ∀ al r g, 0 < tvf al r g) : ∀ u, u < 20 → (meldA lt tvf A a b).2.1 u = if A.2.1 u = nI a then nI b else A.2.1 u := by
  intro u hu
  obtain ⟨h1, h2⟩ := meldF_leaf (lt := lt) (tvf := tvf) h ha hb hab hw hpos 24 (Nat.le_refl _)
  have hok := okA_meldF (lt := lt) (tvf := tvf) h ha hb hab hw hpos 24 (Nat.le_refl _)
  have hne : ¬ (meldA lt tvf A a b).2.1 u = nI a := fun q => by
    obtain ⟨r, hr, hr2⟩ := (hok.2.2 u a hu ha).mp q
    rw [(isL_ids (h1 r hr)).2] at hr2
    cases hr2
  rcases h2 u hu with q | ⟨q1, q2⟩
  · have q : (meldA lt tvf A a b).2.1 u = A.2.1 u := q
    rw [if_neg (fun z => hne (q.trans z))]
    exact q
  · rw [if_pos q1]; exact q2
theorem meldF_sp {lt : Nat → Nat → Bool} {tvf : Int32 → Nat → Int32 → Int32} {A : AF} {a b : Nat} : ∀ n, (meldF lt tvf a b n A).2.2 = A.2.2
  | 0 => rfl
  | n + 1 => by
    show (moveA lt tvf (meldF lt tvf a b n A) a b n).2.2 = _
    unfold moveA
    split
    · exact meldF_sp n
    · exact meldF_sp n
theorem meldF_16 {lt : Nat → Nat → Bool} {tvf : Int32 → Nat → Int32 → Int32} {A : AF} {w a b : Nat} (h : okA A w) (ha : a < 3) (hb : b < 3) (hab : a ≠ b) (hw : w ≤ 1000) (hpos : ∀ al r g, 0 < tvf al r g) : ∀ k, k ≤ 8 → meldF lt tvf a b (16 + k) A = meldF lt tvf a b 16 A
  | 0, _ => rfl
  | k + 1, hk => by
    have hok := okA_meldF (lt := lt) (tvf := tvf) h ha hb hab hw hpos (16 + k) (by omega)
    show moveA lt tvf (meldF lt tvf a b (16 + k) A) a b (16 + k) = _
    unfold moveA
    rw [if_pos (hok.1.high hw (show 24 * a + (16 + k) < 72 by omega) (by omega))]
    exact meldF_16 h ha hb hab hw hpos k (by omega)
section RME
variable {G : pm_G} {d : Nat} {h : pm_H} {S F P : Nat → Int32}
theorem r_items {N : Nat} {Q : Int32 → pm_H → Prop} (hM : Mk h) (hN : gi h 452 2 = nI N) (k : Q (nI N) (s8 (fp h F P) S)) : ci G (d + 1) m_X12_items [.ref 446] (s8 (fp h F P) S) Q := by
  obtain ⟨hM, -, -, h1, h2⟩ := hM
  refine ci_wp rfl (Nat.le_of_ble_eq_true rfl) rfl (x_X12_items ?_)
  have hp : gp (s8 (fp h F P) S) 446 10 = 452 := h1
  rw [hp, sfgi h S F P (by decide) (by decide) (by decide)]
  exact ⟨hM.1, 180, h2, vp_nI (k := 2) (by decide) (by decide), _, rfl, by rw [show (2 : Int32).toNatClampNeg = 2 from rfl, hN]; exact k⟩
theorem r_melds {Q : pm_H → Prop} {tvf : Int32 → Nat → Int32 → Int32} {a b c w N : Nat} {A : AF} (hM : Mk h) (hN : gi h 452 2 = nI N) (hN2 : N ≤ 20) (hb : b + 320 ≤ 4485) (ha : a < 3) (hc : c < 3) (hac : a ≠ c) (hw : w ≤ 1000) (hpos : ∀ al r t, 0 < tvf al r t) (hG : GRc G (d + 20) h tvf) (hA : okA A w) (hC : RA (gi h 460) S b A) (hn : ∀ t, N ≤ t → t < 20 → A.2.1 t = -1)
    (k : ∀ S' F' P', RA (gi h 460) S' b (meldA (rLt (gi h 460)) tvf A a c) → RZ S S' b → Q (s8 (fp h F' P') S')) : cv G (d + 22) m_X12_melds [.ref 446, .int (nI b), .int (nI a), .int (nI c)] (s8 (fp h F P) S) Q := by
  have hMk := hM
  obtain ⟨hM, -, -, -, -⟩ := hM
  have hMf : ∀ F P, Md (fp h F P) := fun F P => hM
  refine cv_wp rfl (Nat.le_of_ble_eq_true rfl) rfl (x_X12_melds ?_)
  have key := up_to (P := fun n => ∀ S1 F P, RR (gi h 460) S1 b (meldF (rLt (gi h 460)) tvf a c n A).1 .leaf → RJ S S1 b → Wp G (m_X12_melds, d + 22, 0, 0, fun v h1 => v = none ∧ Q h1) (0, 0) 3 [.ref 446, .int (nI b), .int (nI a), .int (nI c), .int (nI n), .null] [] (s8 (fp h F P) S1)) 16 (fun n hn16 ih => ?_) ?_
  · exact key S F P hC.1 RJ.rfl'
  · intro S1 F P hRR hRJ
    have hok := okA_meldF (lt := rLt (gi h 460)) (tvf := tvf) hA ha hc hac hw hpos n (by omega)
    have ih : ∀ S1 F P, RR (gi h 460) S1 b (moveA (rLt (gi h 460)) tvf (meldF (rLt (gi h 460)) tvf a c n A) a c n).1 .leaf → RJ S S1 b → _ := ih
    generalize meldF (rLt (gi h 460)) tvf a c n A = B at hRR hok ih
    have hq : 24 * a + n < 72 := by omega
    obtain ⟨c1, c2⟩ := hRR.1 a n ha hn16
    refine x_X12_melds_3 ?_
    rw [if_neg (li_no 16 16 rfl hn16 (by decide))]
    refine ⟨hM.1, r_rootAt (d := d + 20) (hMf F P) (by omega) ?_⟩
    rw [c2]
    by_cases hX : isL (B.1 (24 * a + n)) = true
    · rw [if_pos (c1.m1.2.1.mpr hX), nI_1]
      refine ih S1 F P ?_ hRJ
      unfold moveA
      rw [if_pos hX]
      exact hRR
    · have hX' : isL (B.1 (24 * a + n)) = false := by simpa using hX
      rw [if_neg (fun z => hX (c1.m1.2.1.mp z))]
      unfold moveA at ih
      rw [if_neg hX] at ih
      refine ⟨hM.1, r_roots (d := d + 20) (hMf F P) (by omega) ?_⟩
      obtain ⟨w1, w2⟩ := wf_out hok.1 hq hX'
      have w2 : tr_rk (B.1 (24 * a + n)) = n := by omega
      have pi := aids_up (hs := B.1) (q := 24 * a + n) .leaf hq
      rw [show tr_ids .leaf = [] from rfl, List.nil_append] at pi
      have rj1 : RJ S1 (up1 S1 (b + 192 + 16 * a + n) (-1)) b := by rw [show b + 192 + 16 * a + n = b + 192 + (16 * a + n) by omega]; exact RJ.root (by omega)
      have keep : ∀ {X : Tr}, NR (gi h 460) S1 b X → NR (gi h 460) (up1 S1 (b + 192 + 16 * a + n) (-1)) b X := fun hX => hX.keep (fun n j hn hj => up1_ne _ _ (by omega)) (fun t ht => up1_ne _ _ (by omega))
      have rr1 : RR (gi h 460) (up1 S1 (b + 192 + 16 * a + n) (-1)) b (up1 B.1 (24 * a + n) .leaf) (B.1 (24 * a + n)) := by
        refine ⟨fun a' r' ha' hr' => ⟨?_, ?_⟩, keep c1, fun j hj hj2 => ?_⟩
        · by_cases z : 24 * a' + r' = 24 * a + n
          · rw [z, up1_at]; trivial
          · rw [up1_ne _ _ z]; exact keep (hRR.1 a' r' ha' hr').1
        · by_cases z : 24 * a' + r' = 24 * a + n
          · rw [z, up1_at, show b + 192 + 16 * a' + r' = b + 192 + 16 * a + n by omega, up1_at]; rfl
          · rw [up1_ne B.1 _ z, up1_ne _ _ (by omega)]; exact (hRR.1 a' r' ha' hr').2
        · rw [up1_ne _ _ (by omega)]
          refine hRR.2.2 j hj fun q => hj2 ?_
          rw [show tr_ids .leaf = [] from rfl, List.append_nil] at q
          exact pi.mem_iff.mpr q
      refine ⟨hM.1, r_joins (d := d) (T := B.1 (24 * a + n)) (hp := fun u => if u ∈ tr_its (B.1 (24 * a + n)) then nI c else B.2.1 u) hM hb hc hw hpos hG w1 rr1 hX' (fun u hu => ?_) (fun S6 F' P' rr6 rj6 => ?_)⟩
      · rw [hits_mem]
        by_cases z : u ∈ tr_its (B.1 (24 * a + n))
        · rw [if_pos z]; exact ⟨fun _ => Or.inr z, fun _ => rfl⟩
        · rw [if_neg z, hok.2.2 u c hu hc]
          constructor
          · rintro ⟨r', g1, g2⟩
            exact Or.inl ⟨r', g1, by rw [up1_ne _ _ (by omega)]; exact g2⟩
          · rintro (⟨r', g1, g2⟩ | g2)
            · exact ⟨r', g1, by rw [up1_ne _ _ (by omega)] at g2; exact g2⟩
            · exact absurd g2 z
      · rw [w2] at rr6
        rw [nI_1]
        exact ih S6 F' P' rr6 ((hRJ.trans rj1).trans rj6)
  · intro S1 F P hRR hRJ
    refine x_X12_melds_3 ?_
    rw [if_pos (li_yes 16 16 rfl)]
    rw [← meldF_16 hA ha hc hac hw hpos 8 (Nat.le_refl _)] at hRR
    have hhp := meldA_hp (lt := rLt (gi h 460)) (tvf := tvf) hA ha hc hac hw hpos
    have key2 := up_to (P := fun n => ∀ S2, (∀ i, (i < b + 240 ∨ b + 240 + n ≤ i) → S2 i = S1 i) → (∀ u, u < n → S2 (b + 240 + u) = (meldA (rLt (gi h 460)) tvf A a c).2.1 u) → Wp G (m_X12_melds, d + 22, 0, 0, fun v h1 => v = none ∧ Q h1) (0, 0) 51 [.ref 446, .int (nI b), .int (nI a), .int (nI c), .int (nI n), .null] [] (s8 (fp h F P) S2)) N (fun n hnN ih => ?_) ?_
    · exact key2 S1 (fun _ _ => rfl) (fun u hu => absurd hu (Nat.not_lt_zero _))
    · intro S2 e1 e2
      refine x_X12_melds_51 ⟨hM.1, r_items (d := d + 20) hMk hN ?_⟩
      rw [if_neg (show ¬ nI N ≤ nI n from nI_nlen hnN (by omega))]
      have g17 : gp (s8 (fp h F P) S2) 446 17 = 458 := hM.2.1
      rw [g17, show (240 : Int32) = nI 240 from rfl, ixg, cl_nI (show b + 240 + n < 2 ^ 31 by omega), s8_gi, nI_1]
      have e3 : S2 (b + 240 + n) = A.2.1 n := (e1 _ (Or.inr (Nat.le_refl _))).trans ((hRJ _ (Or.inr (Or.inl ⟨by omega, by omega⟩))).trans (hC.2 n (by omega)).1)
      refine ⟨hM.1, 4485, hM.2.2, vp_nI (by omega) (by decide), ?_⟩
      have h3 := hhp n (by omega)
      rw [e3]
      by_cases z : A.2.1 n = nI a
      · rw [if_pos z]
        rw [if_pos z] at h3
        rintro _ rfl
        rw [s8_si]
        refine ih _ (fun i hi => ?_) (fun u hu => ?_)
        · rw [up1_ne _ _ (by omega)]; exact e1 i (by omega)
        · by_cases y : u = n
          · subst y; rw [up1_at, h3]
          · rw [up1_ne _ _ (by omega)]; exact e2 u (by omega)
      · rw [if_neg z]
        rw [if_neg z] at h3
        rintro _ rfl
        rw [s8_si]
        refine ih _ (fun i hi => ?_) (fun u hu => ?_)
        · rw [up1_ne _ _ (by omega)]; exact e1 i (by omega)
        · by_cases y : u = n
          · subst y; rw [up1_at, h3]
          · rw [up1_ne _ _ (by omega)]; exact e2 u (by omega)
    · intro S2 e1 e2
      refine x_X12_melds_51 ⟨hM.1, r_items (d := d + 20) hMk hN ?_⟩
      rw [if_pos (show nI N ≤ nI N from Int32.le_refl _)]
      refine ⟨rfl, k S2 F P ⟨⟨fun a' r' ha' hr' => ⟨?_, ?_⟩, trivial, fun j hj hj2 => ?_⟩, fun u hu => ⟨?_, ?_, ?_⟩⟩ (fun i hi => ?_)⟩
      · exact NR.keep (fun n j hn hj => e1 _ (by omega)) (fun u hu => e1 _ (by omega)) (hRR.1 a' r' ha' hr').1
      · rw [e1 _ (by omega)]; exact (hRR.1 a' r' ha' hr').2
      · rw [e1 _ (by omega)]; exact hRR.2.2 j hj hj2
      · by_cases z : u < N
        · exact e2 u z
        · rw [e1 _ (by omega), hRJ _ (Or.inr (Or.inl ⟨by omega, by omega⟩)), (hC.2 u hu).1, hhp u hu, if_neg]
          rw [hn u (by omega) hu]
          exact fun y => nI_nm1 (by omega) y.symm
      · rw [e1 _ (by omega), hRJ _ (Or.inr (Or.inl ⟨by omega, by omega⟩)), (hC.2 u hu).2.1]
        unfold meldA; rw [meldF_sp]
      · rw [e1 _ (by omega), hRJ _ (Or.inr (Or.inl ⟨by omega, by omega⟩)), (hC.2 u hu).2.2]
        unfold meldA; rw [meldF_sp]
      · rw [e1 i (by omega)]; exact hRJ i (by omega)
end RME
