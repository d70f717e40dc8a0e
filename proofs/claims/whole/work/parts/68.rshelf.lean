/-! SHELVES: what stands there stands alone; THE REFERENCE shelves -/
def okS (A : AF) : Prop := ∀ t s, t < 20 → s < 2 → A.2.2.1 t = nI s → ∃ p, p < 4 ∧ A.2.2.2 t = nI p ∧ ∀ t', t' < 20 → A.2.2.1 t' = nI s → A.2.2.2 t' = nI p → t' = t
theorem okS_A0 : okS A0 := fun t s _ hs q => absurd (show (-1 : Int32) = nI s from q).symm (nI_nm1 (by omega))
theorem okS_put {lt : Nat → Nat → Bool} {tvf : Int32 → Nat → Int32 → Int32} {A : AF} {t a : Nat} (h : okS A) : okS (putA lt tvf A t a) := by
  intro u s hu hs q
  have q : up1 A.2.2.1 t (-1) u = nI s := q
  by_cases z : u = t
  · rw [z, up1_at] at q; exact absurd q.symm (nI_nm1 (by omega))
  · rw [up1_ne _ _ z] at q
    obtain ⟨p, hp, h1, h2⟩ := h u s hu hs q
    refine ⟨p, hp, (up1_ne _ _ z).trans h1, fun t' ht' e1 e2 => ?_⟩
    have e1 : up1 A.2.2.1 t (-1) t' = nI s := e1
    have e2 : up1 A.2.2.2 t (-1) t' = nI p := e2
    by_cases y : t' = t
    · rw [y, up1_at] at e1; exact absurd e1.symm (nI_nm1 (by omega))
    · rw [up1_ne _ _ y] at e1 e2; exact h2 t' ht' e1 e2
theorem okS_sp {A A' : AF} (h : okS A) (e : A'.2.2 = A.2.2) : okS A' := by
  intro u s hu hs q
  rw [e] at q ⊢
  exact h u s hu hs q
theorem okS_tell {lt : Nat → Nat → Bool} {tvf : Int32 → Nat → Int32 → Int32} {hm : Nat → Nat} : ∀ n, okS (tellF lt tvf hm n)
  | 0 => okS_A0
  | n + 1 => okS_put (okS_tell n)
theorem nodup_map_on {f : Nat → Nat} : ∀ {L : List Nat}, (∀ x ∈ L, ∀ y ∈ L, f x = f y → x = y) → L.Nodup → (L.map f).Nodup
  | [], _, _ => List.nodup_nil
  | x :: L, h, hn => by
    obtain ⟨n1, n2⟩ := List.nodup_cons.mp hn
    rw [List.map_cons]
    refine List.nodup_cons.mpr ⟨fun q => ?_, nodup_map_on (fun x hx y hy => h x (List.mem_cons_of_mem _ hx) y (List.mem_cons_of_mem _ hy)) n2⟩
    obtain ⟨y, hy, e⟩ := List.mem_map.mp q
    exact n1 (h y (List.mem_cons_of_mem _ hy) x List.mem_cons_self e ▸ hy)
theorem afree_iff {sv pl : Nat → Int32} {x y : Int32} {n : Nat} : afree sv pl x y n = true ↔ ∀ u, u < n → ¬ (sv u = x ∧ pl u = y) := by
  unfold afree
  rw [List.all_eq_true]
  constructor
  · intro h u hu q
    have := h u (List.mem_range.mpr hu)
    simp [q.1, q.2] at this
  · intro h u hu
    have := h u (List.mem_range.mp hu)
    simp only [Bool.not_eq_true', Bool.and_eq_false_imp, decide_eq_true_eq, decide_eq_false_iff_not]
    exact fun a b => this ⟨a, b⟩
theorem freeF_none {sv pl : Nat → Int32} {x : Int32} : ∀ {n : Nat}, n ≤ 4 → freeF sv pl x n = none → ∀ p, 4 - n ≤ p → p < 4 → afree sv pl x (nI p) 20 = false
  | 0, _, _, p, h1, h2 => by omega
  | n + 1, hn, e, p, h1, h2 => by
    unfold freeF at e
    split at e
    · cases e
    next c =>
      by_cases q : p = 3 - n
      · rw [q]; simpa using c
      · exact freeF_none (by omega) e p (by omega) h2
theorem freeF_some {sv pl : Nat → Int32} {x : Int32} : ∀ {n p : Nat}, n ≤ 4 → freeF sv pl x n = some p → 4 - n ≤ p ∧ p < 4 ∧ afree sv pl x (nI p) 20 = true ∧ ∀ q, 4 - n ≤ q → q < p → afree sv pl x (nI q) 20 = false
  | 0, p, _, e => by cases e
  | n + 1, p, hn, e => by
    unfold freeF at e
    split at e
    next c => cases e; exact ⟨by omega, by omega, c, fun q h1 h2 => by omega⟩
    next c =>
      obtain ⟨h1, h2, h3, h4⟩ := freeF_some (by omega) e
      refine ⟨by omega, h2, h3, fun q g1 g2 => ?_⟩
      by_cases y : q = 3 - n
      · rw [y]; simpa using c
      · exact h4 q (by omega) g2
theorem nI_tn {p : Nat} (h : p < 4) : (nI p).toInt.toNat = p := by
  rw [nI_toInt (by omega)]; rfl
theorem shelf_full {A : AF} {s : Nat} (h : okS A) (hs : s < 2) : cnt (fun u => decide (A.2.2.1 u = nI s)) 20 = 4 ↔ freeP A.2.2.1 A.2.2.2 (nI s) = none := by
  rw [cnt_filter]
  have mem : ∀ u, u ∈ (List.range 20).filter (fun u => decide (A.2.2.1 u = nI s)) ↔ u < 20 ∧ A.2.2.1 u = nI s := fun u => by
    rw [List.mem_filter, List.mem_range, decide_eq_true_iff]
  have hnd : ((List.range 20).filter (fun u => decide (A.2.2.1 u = nI s))).Nodup := List.nodup_range.sublist List.filter_sublist
  generalize (List.range 20).filter (fun u => decide (A.2.2.1 u = nI s)) = L at mem hnd
  have inj : (L.map fun u => (A.2.2.2 u).toInt.toNat).Nodup := by
    refine nodup_map_on (fun x hx y hy e => ?_) hnd
    obtain ⟨x1, x2⟩ := (mem x).mp hx
    obtain ⟨y1, y2⟩ := (mem y).mp hy
    obtain ⟨p, p1, p2, p3⟩ := h x s x1 hs x2
    obtain ⟨p', q1, q2, q3⟩ := h y s y1 hs y2
    rw [p2, q2, nI_tn p1, nI_tn q1] at e
    exact (p3 y y1 y2 (e ▸ q2)).symm
  have sub : ∀ x ∈ (L.map fun u => (A.2.2.2 u).toInt.toNat), x < 4 := fun x hx => by
    obtain ⟨u, hu, e⟩ := List.mem_map.mp hx
    obtain ⟨u1, u2⟩ := (mem u).mp hu
    obtain ⟨p, p1, p2, p3⟩ := h u s u1 hs u2
    rw [← e, p2, nI_tn p1]; exact p1
  have le4 := nodup_len inj sub
  rw [List.length_map] at le4
  constructor
  · intro e
    cases hf : freeP A.2.2.1 A.2.2.2 (nI s) with
    | none => rfl
    | some p =>
      exfalso
      obtain ⟨h1, h2, h3, h4⟩ := freeF_some (Nat.le_refl _) hf
      rw [afree_iff] at h3
      have := sub_len (us := (List.range 4).erase p) inj (fun x hx => by
        refine (List.mem_erase_of_ne ?_).mpr (List.mem_range.mpr (sub x hx))
        rintro rfl
        obtain ⟨u, hu, e2⟩ := List.mem_map.mp hx
        obtain ⟨u1, u2⟩ := (mem u).mp hu
        obtain ⟨p', p1, p2, p3⟩ := h u s u1 hs u2
        refine h3 u u1 ⟨u2, ?_⟩
        rw [p2, nI_tn p1] at e2
        rw [p2, e2])
      rw [List.length_erase_of_mem (List.mem_range.mpr h2), List.length_map, List.length_range] at this
      omega
  · intro e
    have := sub_len (L := List.range 4) (us := L.map fun u => (A.2.2.2 u).toInt.toNat) List.nodup_range (fun p hp => by
      have hp4 := List.mem_range.mp hp
      have := freeF_none (Nat.le_refl _) e p (by omega) hp4
      have : ¬ ∀ u, u < 20 → ¬ (A.2.2.1 u = nI s ∧ A.2.2.2 u = nI p) := fun q => by
        rw [afree_iff.mpr q] at this; cases this
      simp only [Classical.not_forall, Classical.not_not] at this
      obtain ⟨u, hu, e1, e2⟩ := this
      exact List.mem_map.mpr ⟨u, (mem u).mpr ⟨hu, e1⟩, by rw [e2, nI_tn hp4]⟩)
    rw [List.length_map, List.length_range] at this
    omega
theorem okS_shelve {lt : Nat → Nat → Bool} {kd skd : Nat → Int32} {A : AF} {w a s : Nat} (h : okS A) (hA : okA A w) (ha : a < 3) (hs : s < 2) (hw : w ≤ 1000) : okS (shelveA lt kd skd A a s).2 := by
  unfold shelveA
  split
  next => exact h
  next t A' e =>
    obtain ⟨-, ht, -, -, e2⟩ := okA_take hA ha hw e
    have h' : okS A' := okS_sp h e2
    split
    · exact h'
    next p hp =>
      split
      · obtain ⟨h1, h2, h3, h4⟩ := freeF_some (Nat.le_refl _) hp
        rw [afree_iff] at h3
        intro u s' hu hs' q0
        have q : up1 A'.2.2.1 t (nI s) u = nI s' := q0
        clear q0
        by_cases z : u = t
        · subst z
          rw [up1_at, nI_eq (by omega) (by omega)] at q
          subst q
          refine ⟨p, h2, up1_at _ _ _, fun t' ht' e1 e2 => ?_⟩
          apply Classical.byContradiction
          intro y
          have e1 : up1 A'.2.2.1 u (nI s) t' = nI s := e1
          have e2 : up1 A'.2.2.2 u (nI p) t' = nI p := e2
          rw [up1_ne _ _ y] at e1 e2
          exact h3 t' ht' ⟨e1, e2⟩
        · rw [up1_ne _ _ z] at q
          obtain ⟨p', p1, p2, p3⟩ := h' u s' hu hs' q
          refine ⟨p', p1, (up1_ne _ _ z).trans p2, fun t' ht' e1 e2 => ?_⟩
          have e1 : up1 A'.2.2.1 t (nI s) t' = nI s' := e1
          have e2 : up1 A'.2.2.2 t (nI p) t' = nI p' := e2
          by_cases y : t' = t
          · subst y
            rw [up1_at, nI_eq (by omega) (by omega)] at e1
            rw [up1_at, nI_eq (by omega) (by omega)] at e2
            exact absurd ⟨by rw [e1]; exact q, by rw [e2]; exact p2⟩ (h3 u hu)
          · rw [up1_ne _ _ y] at e1 e2; exact p3 t' ht' e1 e2
      · exact h'
section RSH
variable {G : pm_G} {d : Nat} {h : pm_H} {S F P : Nat → Int32}
theorem cnt_N {p : Nat → Bool} {N : Nat} : ∀ k, (∀ u, N ≤ u → u < N + k → p u = false) → cnt p (N + k) = cnt p N
  | 0, _ => rfl
  | k + 1, h => by
    show cnt p (N + k + 1) = _
    rw [cnt_skip (h (N + k) (by omega) (by omega))]
    exact cnt_N k fun u h1 h2 => h u h1 (by omega)
theorem r_itemOf {t w : Nat} {Q : Int32 → pm_H → Prop} (hM : Mk h) (hi : 7 + 4 * t + w < 180) (k : Q (gi h 452 (7 + 4 * t + w)) (s8 (fp h F P) S)) : ci G (d + 1) m_X12_itemOf [.ref 446, .int (nI t), .int (nI w)] (s8 (fp h F P) S) Q := by
  obtain ⟨hM, -, -, h1, h2⟩ := hM
  refine ci_wp rfl (Nat.le_of_ble_eq_true rfl) rfl (x_X12_itemOf ?_)
  have hp : gp (s8 (fp h F P) S) 446 10 = 452 := h1
  rw [hp, sfgi h S F P (by decide) (by decide) (by decide), show (4 : Int32) = nI 4 from rfl, show (7 : Int32) = nI 7 from rfl, pk_mul, ixg, cl_nI (by omega)]
  exact ⟨hM.1, 180, h2, vp_nI hi (by decide), _, rfl, k⟩
theorem r_shelvedOn {b s N : Nat} {sv : Nat → Int32} {Q : Int32 → pm_H → Prop} (hM : Mk h) (hN : gi h 452 2 = nI N) (hN2 : N ≤ 20) (hb : b + 320 ≤ 4485) (hv : ∀ u, u < 20 → S (b + 260 + u) = sv u) (hn : ∀ u, N ≤ u → u < 20 → sv u = -1) (hs : s < 2) (k : Q (nI (cnt (fun u => decide (sv u = nI s)) 20)) (s8 (fp h F P) S)) : ci G (d + 2) m_X12_shelvedOn [.ref 446, .int (nI b), .int (nI s)] (s8 (fp h F P) S) Q := by
  have e : cnt (fun u => decide (sv u = nI s)) 20 = cnt (fun u => decide (sv u = nI s)) N := by
    rw [show 20 = N + (20 - N) by omega]
    refine cnt_N _ fun u h1 h2 => ?_
    rw [hn u h1 (by omega)]
    exact decide_eq_false fun q => nI_nm1 (by omega) q.symm
  rw [e] at k
  refine ci_wp rfl (Nat.le_of_ble_eq_true rfl) rfl (x_X12_shelvedOn ?_)
  refine up_to (P := fun n => Wp G (m_X12_shelvedOn, d + 1 + 1, 0, 0, fun v h1 => ∃ r, v = some (.int r) ∧ Q r h1) (0, 0) 5 [.ref 446, .int (nI b), .int (nI s), .int (nI (cnt (fun u => decide (sv u = nI s)) n)), .int (nI n)] [] (s8 (fp h F P) S)) N (fun n hn ih => ?_) ?_
  · refine x_X12_shelvedOn_5 ⟨hM.1.1, r_items hM hN ?_⟩
    rw [if_neg (show ¬ nI N ≤ nI n from nI_nlen hn (by omega))]
    have g17 : gp (s8 (fp h F P) S) 446 17 = 458 := hM.1.2.1
    rw [g17, show (260 : Int32) = nI 260 from rfl, ixg, cl_nI (show b + 260 + n < 2 ^ 31 by omega), s8_gi, hv n (by omega), nI_1, nI_1]
    refine ⟨hM.1.1, 4485, hM.1.2.2, vp_nI (by omega) (by decide), ?_⟩
    by_cases c : sv n = nI s
    · rw [if_pos c]
      rwa [cnt_step (by rw [c]; exact decide_eq_true rfl)] at ih
    · rw [if_neg c, show nI (cnt (fun u => decide (sv u = nI s)) n) + 0 = nI (cnt (fun u => decide (sv u = nI s)) n) from nI_add _ 0]
      rwa [cnt_skip (decide_eq_false c)] at ih
  · refine x_X12_shelvedOn_5 ⟨hM.1.1, r_items hM hN ?_⟩
    rw [if_pos (show nI N ≤ nI N from Int32.le_refl _)]
    exact ⟨_, rfl, k⟩
theorem r_isTaken {b s p N : Nat} {sv pl : Nat → Int32} {Q : Int32 → pm_H → Prop} (hM : Mk h) (hN : gi h 452 2 = nI N) (hN2 : N ≤ 20) (hb : b + 320 ≤ 4485) (hv : ∀ u, u < 20 → S (b + 260 + u) = sv u ∧ S (b + 280 + u) = pl u) (hn : ∀ u, N ≤ u → u < 20 → sv u = -1) (hs : s < 2) (k : Q (if afree sv pl (nI s) (nI p) 20 = true then 0 else 1) (s8 (fp h F P) S)) : ci G (d + 2) m_X12_isTaken [.ref 446, .int (nI b), .int (nI s), .int (nI p)] (s8 (fp h F P) S) Q := by
  have e : afree sv pl (nI s) (nI p) 20 = afree sv pl (nI s) (nI p) N := by
    rw [Bool.eq_iff_iff, afree_iff, afree_iff]
    constructor
    · intro h u hu; exact h u (by omega)
    · intro h u hu
      by_cases q : u < N
      · exact h u q
      · rintro ⟨y, -⟩
        rw [hn u (by omega) hu] at y
        exact nI_nm1 (by omega) y.symm
  rw [e] at k
  refine ci_wp rfl (Nat.le_of_ble_eq_true rfl) rfl (x_X12_isTaken ?_)
  refine up_to (P := fun n => Wp G (m_X12_isTaken, d + 1 + 1, 0, 0, fun v h1 => ∃ r, v = some (.int r) ∧ Q r h1) (0, 0) 6 [.ref 446, .int (nI b), .int (nI s), .int (nI p), .int (if afree sv pl (nI s) (nI p) n = true then 0 else 1), .int (nI n)] [] (s8 (fp h F P) S)) N (fun n hn ih => ?_) ?_
  · refine x_X12_isTaken_6 ⟨hM.1.1, r_items hM hN ?_⟩
    rw [if_neg (show ¬ nI N ≤ nI n from nI_nlen hn (by omega)), nI_1]
    rw [afree_s] at ih
    by_cases c : afree sv pl (nI s) (nI p) n = true
    · have z : (if afree sv pl (nI s) (nI p) n = true then (0 : Int32) else 1) = 0 := if_pos c
      rw [if_pos z]
      rw [c, Bool.true_and] at ih
      have g17 : gp (s8 (fp h F P) S) 446 17 = 458 := hM.1.2.1
      rw [g17, show (260 : Int32) = nI 260 from rfl, show (280 : Int32) = nI 280 from rfl, ixg, ixg, cl_nI (show b + 260 + n < 2 ^ 31 by omega), cl_nI (show b + 280 + n < 2 ^ 31 by omega), s8_gi, (hv n (by omega)).1, (hv n (by omega)).2]
      refine ⟨hM.1.1, 4485, hM.1.2.2, vp_nI (by omega) (by decide), ?_⟩
      by_cases c1 : sv n = nI s
      · rw [if_pos c1]
        refine ⟨vp_nI (by omega) (by decide), ?_⟩
        by_cases c2 : pl n = nI p
        · rw [if_pos c2]
          simpa [c1, c2] using ih
        · rw [if_neg c2]
          simpa [c1, c2] using ih
      · rw [if_neg c1]
        simpa [c1] using ih
    · have z : ¬ (if afree sv pl (nI s) (nI p) n = true then (0 : Int32) else 1) = 0 := by rw [if_neg c]; decide
      rw [if_neg z]
      have c' : afree sv pl (nI s) (nI p) n = false := by simpa using c
      rw [c', Bool.false_and] at ih
      exact ih
  · refine x_X12_isTaken_6 ⟨hM.1.1, r_items hM hN ?_⟩
    rw [if_pos (show nI N ≤ nI N from Int32.le_refl _)]
    refine ⟨?_, _, rfl, k⟩
    by_cases c : afree sv pl (nI s) (nI p) N = true
    · exact Or.inl (if_pos c)
    · exact Or.inr (if_neg c)
end RSH
