/-! THE REFERENCE: how many, and the first free node -/
theorem cnt_filter (p : Nat → Bool) : ∀ n, cnt p n = ((List.range n).filter p).length
  | 0 => rfl
  | n + 1 => by
    rw [List.range_succ, List.filter_append, List.length_append, ← cnt_filter p n]
    cases h : p n with
    | true => rw [cnt_step h]; simp [h]
    | false => rw [cnt_skip h]; simp [h]
theorem cnt_len {p : Nat → Bool} {n : Nat} {L : List Nat} (hn : L.Nodup) (hl : ∀ t ∈ L, t < n) (hp : ∀ t, t < n → (p t = true ↔ t ∈ L)) : cnt p n = L.length := by
  rw [cnt_filter]
  refine Nat.le_antisymm (sub_len (List.nodup_range.sublist List.filter_sublist) (fun x hx => ?_)) (sub_len hn (fun x hx => ?_))
  · rw [List.mem_filter, List.mem_range] at hx
    exact (hp x hx.1).mp hx.2
  · rw [List.mem_filter, List.mem_range]
    exact ⟨hl x hx, (hp x (hl x hx)).mpr hx⟩
/-- the ITEMS of a HEAP, by RANK -/
def hits (hs : Hs) (a n : Nat) : List Nat := (List.range n).flatMap fun r => tr_its (hs (24 * a + r))
theorem hits_s (hs : Hs) (a n : Nat) : hits hs a (n + 1) = hits hs a n ++ tr_its (hs (24 * a + n)) := by
  unfold hits
  rw [List.range_succ, List.flatMap_append]
  simp
theorem hits_mem {hs : Hs} {a n t : Nat} : t ∈ hits hs a n ↔ ∃ r, r < n ∧ t ∈ tr_its (hs (24 * a + r)) := by simp [hits]
theorem hits_sub {hs : Hs} {a : Nat} (ha : a < 3) : ∀ {n : Nat}, n ≤ 24 → (aits hs).Nodup → (hits hs a n).Nodup
  | 0, _, _ => List.nodup_nil
  | n + 1, hn, hd => by
    rw [hits_s]
    have hq : 24 * a + n < 72 := by omega
    have pt := aits_up (hs := hs) (q := 24 * a + n) .leaf hq
    rw [show tr_its .leaf = [] from rfl, List.nil_append] at pt
    obtain ⟨b1, b2, b3⟩ := List.nodup_append.mp (pt.nodup_iff.mpr hd)
    refine List.nodup_append.mpr ⟨hits_sub ha (by omega) hd, b2, fun x hx y hy => ?_⟩
    obtain ⟨r, h1, h2⟩ := hits_mem.mp hx
    exact b3 x (aits_mem.mpr ⟨24 * a + r, by omega, by rw [up1_ne _ _ (by omega)]; exact h2⟩) y hy
theorem wf.high {hs : Hs} {T : Tr} {w q : Nat} (h : wf hs T w) (hw : w ≤ 1000) (hq : q < 72) (h16 : 16 ≤ q % 24) : isL (hs q) = true := by
  cases hz : isL (hs q) with
  | true => rfl
  | false =>
    exfalso
    have ps := wsum_up (hs := hs) (q := q) .leaf hq
    have e2 : ∀ x, trw Std.DTreeMap.Internal.Impl.leaf x = 0 := fun _ => rfl
    have h8 := h.2.2.2.2.2.2.2
    rw [trw_pos hz, e2] at ps
    have := pow_9 (r := q % 24) (by omega)
    omega
theorem hits_16 {hs : Hs} {T : Tr} {w a : Nat} (h : wf hs T w) (hw : w ≤ 1000) (ha : a < 3) : ∀ k, k ≤ 8 → hits hs a (16 + k) = hits hs a 16
  | 0, _ => rfl
  | k + 1, hk => by
    rw [show 16 + (k + 1) = (16 + k) + 1 from rfl, hits_s, hits_16 h hw ha k (by omega)]
    have : isL (hs (24 * a + (16 + k))) = true := h.high hw (by omega) (by omega)
    rw [(isL_ids this).2, List.append_nil]
/-- as many as are told to be in the HEAP -/
theorem hcount_len {hs : Hs} {T : Tr} {w a : Nat} {hp : Nat → Int32} (h : wf hs T w) (hw : w ≤ 1000) (ha : a < 3) (hp1 : ∀ t, t < 20 → (hp t = nI a ↔ t ∈ hits hs a 24 ∨ t ∈ tr_its T)) : hcount hp a = nI ((hits hs a 16).length + (tr_its T).length) := by
  obtain ⟨n1, n2, n3⟩ := List.nodup_append.mp h.2.1
  have e : hits hs a 24 = hits hs a 16 := hits_16 h hw ha 8 (by decide)
  unfold hcount
  rw [← List.length_append]
  congr 1
  refine cnt_len (List.nodup_append.mpr ⟨hits_sub ha (by decide) n1, n2, fun x hx y hy => ?_⟩) (fun t ht => ?_) (fun t ht => ?_)
  · obtain ⟨r, h1, h2⟩ := hits_mem.mp hx
    exact n3 x (aits_mem.mpr ⟨24 * a + r, by omega, h2⟩) y hy
  · refine h.2.2.1 t (List.mem_append.mpr ?_)
    rcases List.mem_append.mp ht with q | q
    · obtain ⟨r, h1, h2⟩ := hits_mem.mp q
      exact Or.inl (aits_mem.mpr ⟨24 * a + r, by omega, h2⟩)
    · exact Or.inr q
  · rw [decide_eq_true_iff, hp1 t ht, e, List.mem_append]
section RCO
variable {G : pm_G} {d : Nat} {h : pm_H} {S : Nat → Int32}
theorem r_itemsUnder {ky : Nat → Int32} {b : Nat} (hM : Md h) (hb : b + 320 ≤ 4485) : ∀ (T : Tr) (D : Nat) (Q : Int32 → pm_H → Prop), NR ky S b T → TR T → (isL T = true ∨ tr_rk T ≤ D) → Q (nI (tr_its T).length) (s8 h S) → ci G (D + 2) m_X12_itemsUnder [.ref 446, .int (nI b), .int (tr_no T)] (s8 h S) Q
  | .leaf, D, Q, _, _, _, k => by
    refine ci_wp rfl (Nat.le_of_ble_eq_true rfl) rfl (x_X12_itemsUnder ?_)
    rw [if_neg (show ¬ (0 : Int32) ≤ tr_no .leaf by decide)]
    exact ⟨_, rfl, k⟩
  | .inner z n u l r, D, Q, ⟨hn, hl, hr⟩, ⟨t1, t2, t3, t4⟩, hD, k => by
    have hD : n_rk n ≤ D := hD.resolve_left (fun q => by cases q)
    have n0 := hn.1
    refine ci_wp rfl (Nat.le_of_ble_eq_true rfl) rfl (x_X12_itemsUnder ?_)
    rw [show tr_no (.inner z n u l r) = nI n.1 from rfl, if_pos (nI_0le (by omega))]
    have side : ∀ (c : Tr) (Q' : Int32 → pm_H → Prop), (∀ (D : Nat) (Q : Int32 → pm_H → Prop), (isL c = true ∨ tr_rk c ≤ D) → Q (nI (tr_its c).length) (s8 h S) → ci G (D + 2) m_X12_itemsUnder [.ref 446, .int (nI b), .int (tr_no c)] (s8 h S) Q) → (isL c = true ∨ tr_rk c < n_rk n) → Q' (nI (tr_its c).length) (s8 h S) → ci G (D + 1) m_X12_itemsUnder [.ref 446, .int (nI b), .int (tr_no c)] (s8 h S) Q' := by
      intro c Q' ih hc hQ
      cases D with
      | zero =>
        have hc : isL c = true := hc.resolve_right (by omega)
        rw [isL_leaf hc] at hQ ⊢
        refine ci_wp rfl (Nat.le_of_ble_eq_true rfl) rfl (x_X12_itemsUnder ?_)
        rw [if_neg (show ¬ (0 : Int32) ≤ tr_no .leaf by decide)]
        exact ⟨_, rfl, hQ⟩
      | succ D' => exact ih D' Q' (hc.imp id (by omega)) hQ
    refine ⟨hM.1, r_nodeOf (w := 3) hM (by omega) ⟨hM.1, r_nodeOf (w := 6) hM (by omega) ?_⟩⟩
    rw [hn.2.2.2.2.1, hn.2.2.2.2.2.2.2.1]
    refine ⟨hM.1, side l _ (fun D Q a b' => r_itemsUnder hM hb l D Q hl t3 a b') t1 ⟨hM.1, r_nodeOf (w := 7) hM (by omega) ?_⟩⟩
    rw [hn.2.2.2.2.2.2.2.2.1]
    refine ⟨hM.1, side r _ (fun D Q a b' => r_itemsUnder hM hb r D Q hr t4 a b') t2 ⟨_, rfl, ?_⟩⟩
    rw [nI_add, nI_add]
    simp only [tr_its, List.length_append] at k
    rw [Nat.add_assoc]
    exact k
theorem r_itemsIn {ky : Nat → Int32} {b a w : Nat} {hs : Hs} {T : Tr} {Q : Int32 → pm_H → Prop} (hM : Md h) (hb : b + 320 ≤ 4485) (ha : a < 3) (hw : w ≤ 1000) (hwf : wf hs T w) (hn : ∀ r, r < 16 → NR ky S b (hs (24 * a + r)) ∧ S (b + 192 + 16 * a + r) = tr_no (hs (24 * a + r))) (k : Q (nI (hits hs a 16).length) (s8 h S)) : ci G (d + 20) m_X12_itemsIn [.ref 446, .int (nI b), .int (nI a)] (s8 h S) Q := by
  refine ci_wp rfl (Nat.le_of_ble_eq_true rfl) rfl (x_X12_itemsIn ?_)
  refine up_to (P := fun n => Wp G (m_X12_itemsIn, d + 19 + 1, 0, 0, fun v h1 => ∃ r, v = some (.int r) ∧ Q r h1) (0, 0) 5 [.ref 446, .int (nI b), .int (nI a), .int (nI (hits hs a n).length), .int (nI n)] [] (s8 h S)) 16 (fun n hn16 ih => ?_) ?_
  · refine x_X12_itemsIn_5 ?_
    rw [if_neg (li_no 16 16 rfl hn16 (by decide))]
    obtain ⟨c1, c2⟩ := hn n hn16
    refine ⟨hM.1, r_rootAt (d := d + 18) hM (by omega) ?_⟩
    rw [c2]
    have hq : 24 * a + n < 72 := by omega
    have hTR := (hwf.2.2.2.2.1 _ hq).2.1
    refine ⟨hM.1, r_itemsUnder (D := d + 17) hM hb (hs (24 * a + n)) _ c1 hTR ?_ ?_⟩
    · cases hz : isL (hs (24 * a + n)) with
      | true => exact Or.inl rfl
      | false => exact Or.inr (by have := (hwf.2.2.2.2.1 _ hq).2.2 hz; omega)
    · rw [nI_add, nI_1]
      rw [hits_s, List.length_append] at ih
      exact ih
  · refine x_X12_itemsIn_5 ?_
    rw [if_pos (li_yes 16 16 rfl)]
    exact ⟨_, rfl, k⟩
theorem r_freeNode {b x : Nat} {Q : Int32 → pm_H → Prop} (hM : Md h) (hb : b + 320 ≤ 4485) (hx : x < 24) (h0 : S (b + 8 * x) = -1) (hlt : ∀ j, j < x → 0 ≤ S (b + 8 * j)) (k : Q (nI x) (s8 h S)) : ci G (d + 2) m_X12_freeNode [.ref 446, .int (nI b)] (s8 h S) Q := by
  refine ci_wp rfl (Nat.le_of_ble_eq_true rfl) rfl (x_X12_freeNode ?_)
  refine up_to (P := fun n => Wp G (m_X12_freeNode, d + 2, 0, 0, fun v h1 => ∃ r, v = some (.int r) ∧ Q r h1) (0, 0) 2 [.ref 446, .int (nI b), .int (nI n)] [] (s8 h S)) x (fun n hn ih => ?_) ?_
  · refine x_X12_freeNode_2 ⟨hM.1, r_nodeOf (w := 0) hM (by omega) ?_⟩
    rw [if_neg (show ¬ S (b + 8 * n + 0) < 0 from Int32.not_lt.mpr (hlt n hn)), nI_1]
    exact ih
  · refine x_X12_freeNode_2 ⟨hM.1, r_nodeOf (w := 0) hM (by omega) ?_⟩
    rw [if_pos (show S (b + 8 * x + 0) < 0 by rw [show b + 8 * x + 0 = b + 8 * x from rfl, h0]; decide)]
    exact ⟨_, rfl, k⟩
theorem r_makes {b n : Nat} {rk tg : Int32} {Q : pm_H → Prop} (hM : Md h) (hi : b + 8 * n + 7 < 4485) (k : Q (s8 h (up1 (up1 (up1 (up1 (fr8 S b n 8) (b + 8 * n) rk) (b + 8 * n + 1) tg) (b + 8 * n + 2) 0) (b + 8 * n + 3) 0))) : cv G (d + 3) m_X12_makes [.ref 446, .int (nI b), .int (nI n), .int rk, .int tg] (s8 h S) Q := by
  refine cv_wp rfl (Nat.le_of_ble_eq_true rfl) rfl (x_X12_makes ?_)
  exact ⟨hM.1, r_frees (d := d) hM hi ⟨hM.1, r_lays (w := 0) hM (by omega) ⟨hM.1, r_lays (w := 1) hM (by omega) ⟨hM.1, r_lays (w := 2) hM (by omega) ⟨hM.1, r_lays (w := 3) hM (by omega) ⟨rfl, k⟩⟩⟩⟩⟩⟩
end RCO
