/-! NODES of TREES and heaps; the class's questions about them -/
def tr_nds : Tr → List Nd
  | .leaf => []
  | .inner _ k _ l r => k :: (tr_nds l ++ tr_nds r)
theorem tr_ids_nds : ∀ T : Tr, tr_ids T = (tr_nds T).map (fun k => k.1)
  | .leaf => rfl
  | .inner _ k _ l r => by simp [tr_ids, tr_nds, tr_ids_nds l, tr_ids_nds r]
theorem tr_its_nds : ∀ (T : Tr) (t : Nat), t ∈ tr_its T ↔ ∃ k ∈ tr_nds T, t ∈ n_ls k
  | .leaf, t => by simp [tr_its, tr_nds]
  | .inner _ k _ l r, t => by
    simp only [tr_its, tr_nds, List.mem_append, List.mem_cons, tr_its_nds l, tr_its_nds r]
    constructor
    · rintro (q | ⟨x, q1, q2⟩ | ⟨x, q1, q2⟩)
      · exact ⟨k, Or.inl rfl, q⟩
      · exact ⟨x, Or.inr (Or.inl q1), q2⟩
      · exact ⟨x, Or.inr (Or.inr q1), q2⟩
    · rintro ⟨x, q | q | q, q2⟩
      · exact Or.inl (q ▸ q2)
      · exact Or.inr (Or.inl ⟨x, q, q2⟩)
      · exact Or.inr (Or.inr ⟨x, q, q2⟩)
theorem tr_nds_one : ∀ {T : Tr} {k k' : Nd} {t : Nat}, (tr_its T).Nodup → k ∈ tr_nds T → k' ∈ tr_nds T → t ∈ n_ls k → t ∈ n_ls k' → k = k'
  | .leaf, _, _, _, _, h, _, _, _ => by cases h
  | .inner _ c _ l r, k, k', t, hn, h1, h2, h3, h4 => by
    obtain ⟨n1, n2, n3⟩ := List.nodup_append.mp (show (n_ls c ++ (tr_its l ++ tr_its r)).Nodup from hn)
    obtain ⟨m1, m2, m3⟩ := List.nodup_append.mp n2
    have il : ∀ x ∈ tr_nds l, t ∈ n_ls x → t ∈ tr_its l := fun x q1 q2 => (tr_its_nds l t).mpr ⟨x, q1, q2⟩
    have ir : ∀ x ∈ tr_nds r, t ∈ n_ls x → t ∈ tr_its r := fun x q1 q2 => (tr_its_nds r t).mpr ⟨x, q1, q2⟩
    rcases List.mem_cons.mp h1 with a | a
    · rcases List.mem_cons.mp h2 with b | b
      · rw [a, b]
      · exfalso
        rcases List.mem_append.mp b with b | b
        · exact n3 t (a ▸ h3) t (List.mem_append_left _ (il _ b h4)) rfl
        · exact n3 t (a ▸ h3) t (List.mem_append_right _ (ir _ b h4)) rfl
    · rcases List.mem_cons.mp h2 with b | b
      · exfalso
        rcases List.mem_append.mp a with a | a
        · exact n3 t (b ▸ h4) t (List.mem_append_left _ (il _ a h3)) rfl
        · exact n3 t (b ▸ h4) t (List.mem_append_right _ (ir _ a h3)) rfl
      · rcases List.mem_append.mp a with a | a
        · rcases List.mem_append.mp b with b | b
          · exact tr_nds_one m1 a b h3 h4
          · exact absurd rfl (m3 t (il _ a h3) t (ir _ b h4))
        · rcases List.mem_append.mp b with b | b
          · exact absurd rfl (m3 t (il _ b h4) t (ir _ a h3))
          · exact tr_nds_one m2 a b h3 h4
/-- all NODES of the heaps -/
def ands (hs : Hs) : List Nd := (List.range 72).flatMap (fun q => tr_nds (hs q))
theorem ands_mem {hs : Hs} {k : Nd} : k ∈ ands hs ↔ ∃ q, q < 72 ∧ k ∈ tr_nds (hs q) := by simp [ands]
theorem aits_nds {hs : Hs} {t : Nat} : t ∈ aits hs ↔ ∃ k ∈ ands hs, t ∈ n_ls k := by
  rw [aits_mem]
  constructor
  · rintro ⟨q, hq, h⟩
    obtain ⟨k, h1, h2⟩ := (tr_its_nds _ _).mp h
    exact ⟨k, ands_mem.mpr ⟨q, hq, h1⟩, h2⟩
  · rintro ⟨k, h1, h2⟩
    obtain ⟨q, hq, h⟩ := ands_mem.mp h1
    exact ⟨q, hq, (tr_its_nds _ _).mpr ⟨k, h, h2⟩⟩
theorem aids_nds {hs : Hs} {j : Nat} : j ∈ aids hs ↔ ∃ k ∈ ands hs, k.1 = j := by
  rw [aids_mem]
  constructor
  · rintro ⟨q, hq, h⟩
    rw [tr_ids_nds, List.mem_map] at h
    obtain ⟨k, h1, h2⟩ := h
    exact ⟨k, ands_mem.mpr ⟨q, hq, h1⟩, h2⟩
  · rintro ⟨k, h1, h2⟩
    obtain ⟨q, hq, h⟩ := ands_mem.mp h1
    exact ⟨q, hq, by rw [tr_ids_nds, List.mem_map]; exact ⟨k, h, h2⟩⟩
theorem aits_one {hs : Hs} {q q' t : Nat} (hn : (aits hs).Nodup) (hq : q < 72) (hq' : q' < 72) (h : t ∈ tr_its (hs q)) (h' : t ∈ tr_its (hs q')) : q = q' := by
  refine Classical.byContradiction fun c => ?_
  have pt := aits_up (hs := hs) (q := q) .leaf hq
  rw [show tr_its .leaf = [] from rfl, List.nil_append] at pt
  obtain ⟨-, -, b3⟩ := List.nodup_append.mp (pt.nodup_iff.mpr hn)
  exact b3 t (aits_mem.mpr ⟨q', hq', by rw [up1_ne _ _ (Ne.symm c)]; exact h'⟩) t h rfl
theorem aids_one {hs : Hs} {q q' t : Nat} (hn : (aids hs).Nodup) (hq : q < 72) (hq' : q' < 72) (h : t ∈ tr_ids (hs q)) (h' : t ∈ tr_ids (hs q')) : q = q' := by
  refine Classical.byContradiction fun c => ?_
  have pt := aids_up (hs := hs) (q := q) .leaf hq
  rw [show tr_ids .leaf = [] from rfl, List.nil_append] at pt
  obtain ⟨-, -, b3⟩ := List.nodup_append.mp (pt.nodup_iff.mpr hn)
  exact b3 t (aids_mem.mpr ⟨q', hq', by rw [up1_ne _ _ (Ne.symm c)]; exact h'⟩) t h rfl
theorem aits_nd {hs : Hs} {q : Nat} (hn : (aits hs).Nodup) (hq : q < 72) : (tr_its (hs q)).Nodup := by
  have pt := aits_up (hs := hs) (q := q) .leaf hq
  rw [show tr_its .leaf = [] from rfl, List.nil_append] at pt
  exact (List.nodup_append.mp (pt.nodup_iff.mpr hn)).2.1
theorem aids_nd {hs : Hs} {q : Nat} (hn : (aids hs).Nodup) (hq : q < 72) : (tr_ids (hs q)).Nodup := by
  have pt := aids_up (hs := hs) (q := q) .leaf hq
  rw [show tr_ids .leaf = [] from rfl, List.nil_append] at pt
  exact (List.nodup_append.mp (pt.nodup_iff.mpr hn)).2.1
theorem ands_one {hs : Hs} {k k' : Nd} {t : Nat} (hn : (aits hs).Nodup) (h1 : k ∈ ands hs) (h2 : k' ∈ ands hs) (h3 : t ∈ n_ls k) (h4 : t ∈ n_ls k') : k = k' := by
  obtain ⟨q, hq, a⟩ := ands_mem.mp h1
  obtain ⟨q', hq', b⟩ := ands_mem.mp h2
  have e : q = q' := aits_one hn hq hq' ((tr_its_nds _ _).mpr ⟨k, a, h3⟩) ((tr_its_nds _ _).mpr ⟨k', b, h4⟩)
  subst e
  exact tr_nds_one (aits_nd hn hq) a b h3 h4
theorem NC.nd {M : Nat → Nat → Int32} {f : Nat} : ∀ {T : Tr} {p : Int32} {k : Nd}, NC M f p T → k ∈ tr_nds T → ∃ p' x y, NN M f p' k x y
  | .leaf, _, _, _, h => by cases h
  | .inner _ c _ l r, p, k, ⟨h1, h2, h3⟩, h => by
    rcases List.mem_cons.mp h with q | q
    · rw [q]; exact ⟨_, _, _, h1⟩
    · rcases List.mem_append.mp q with q | q
      · exact h2.nd q
      · exact h3.nd q
theorem NR.nd {ky S : Nat → Int32} {b : Nat} : ∀ {T : Tr} {k : Nd}, NR ky S b T → k ∈ tr_nds T → ∃ x y, RN ky S b k x y
  | .leaf, _, _, h => by cases h
  | .inner _ c _ l r, k, ⟨h1, h2, h3⟩, h => by
    rcases List.mem_cons.mp h with q | q
    · rw [q]; exact ⟨_, _, h1⟩
    · rcases List.mem_append.mp q with q | q
      · exact h2.nd q
      · exact h3.nd q
theorem TW.nd : ∀ {T : Tr} {k : Nd}, TW T → k ∈ tr_nds T → n_ls k ≠ [] ∧ n_ld k < 20 ∧ 0 < n_tg k
  | .leaf, _, _, h => by cases h
  | .inner _ c _ l r, k, ⟨h1, h2, h3⟩, h => by
    rcases List.mem_cons.mp h with q | q
    · rw [q]; exact h1
    · rcases List.mem_append.mp q with q | q
      · exact h2.nd q
      · exact h3.nd q
/-- whether an ITEM is RAISED -/
def rsd (lt : Nat → Nat → Bool) (hs : Hs) (t : Nat) : Bool := (ands hs).any (fun k => decide (t ∈ n_ls k) && lt t (n_ld k))
theorem rsd_in {lt : Nat → Nat → Bool} {hs : Hs} {t : Nat} {k : Nd} (hn : (aits hs).Nodup) (hk : k ∈ ands hs) (ht : t ∈ n_ls k) : rsd lt hs t = lt t (n_ld k) := by
  unfold rsd
  cases e : lt t (n_ld k) with
  | true => exact List.any_eq_true.mpr ⟨k, hk, by rw [e, decide_eq_true ht]; rfl⟩
  | false =>
    rw [List.any_eq_false]
    intro k' hk' c
    rw [Bool.and_eq_true, decide_eq_true_iff] at c
    rw [ands_one hn hk' hk c.1 ht, e] at c
    cases c.2
theorem rsd_out {lt : Nat → Nat → Bool} {hs : Hs} {t : Nat} (ht : t ∉ aits hs) : rsd lt hs t = false := by
  unfold rsd
  rw [List.any_eq_false]
  intro k' hk' c
  rw [Bool.and_eq_true, decide_eq_true_iff] at c
  exact ht (aits_nds.mpr ⟨k', hk', c.1⟩)
def b2i (b : Bool) : Int32 := if b = true then 1 else 0
theorem b2i_0 {b : Bool} : b2i b = 0 ↔ b = false := by cases b <;> decide
theorem b2i_t : b2i true = 1 := rfl
theorem b2i_f : b2i false = 0 := rfl
theorem cnt_b {p : Nat → Bool} {n : Nat} : nI (cnt p n) + b2i (p n) = nI (cnt p (n + 1)) := by
  cases e : p n with
  | true => rw [cnt_step e]; exact nI_add _ 1
  | false => rw [cnt_skip e]; exact nI_add _ 0
/-- the i-th of a LIST -/
def lsAt (l : List Nat) (i : Int32) : Int32 := if 0 ≤ i.toInt ∧ i.toInt < l.length then nI (l.getD i.toInt.toNat 0) else -1
section NDS
variable {G : pm_G} {d : Nat} {h : pm_H} {f : Nat}
theorem s_isRaised {Q : Int32 → pm_H → Prop} {hs : Hs} {T : Tr} {t w : Nat} (hF : Fa h f) (hP : Pk h) (hn : RC (gi h) f hs .leaf) (hw : wf hs T w) (ht : t < 20) (k : Q (b2i (rsd (kLt (gf h 16)) hs t)) h) : ci G (d + 2) m_X0_isRaised [.ref f, .int (nI t)] h Q := by
  have hnd : (aits hs).Nodup := (List.nodup_append.mp hw.2.1).1
  refine ci_wp rfl (Nat.le_of_ble_eq_true rfl) rfl (x_X0_isRaised ⟨hF.1, f_at12 hF ?_⟩)
  rw [rd_in ht (by decide)]
  by_cases c : t ∈ aits hs
  · obtain ⟨x, h1, h2⟩ := aits_nds.mp c
    obtain ⟨q, hq, h3⟩ := ands_mem.mp h1
    obtain ⟨p', x', y', N⟩ := (hn.1 q hq).1.nd h3
    have W := (hw.2.2.2.2.1 q hq).1.nd h3
    have e24 := (N.2.2.2.2.2.2.2.2.1 t h2).1
    rw [e24, if_neg (nI_nm1 (by have := N.1; omega))]
    have hp : gp h f 0 = 3 := hF.2.1
    rw [hp]
    refine ⟨hF.1, hP.1, s_keyOf hP ?_⟩
    refine ⟨hF.1, f_at3 hF ?_⟩
    rw [rd_in N.1 (by decide), N.2.2.2.1 W.1]
    rw [hp]
    refine ⟨hP.1, s_keyOf hP ?_⟩
    rw [kyf_in ht, kyf_in W.2.1]
    rw [rsd_in hnd h1 h2] at k
    unfold kLt at k
    by_cases z : FP.fcmp (gf h 16 t) (gf h 16 (n_ld x)) = some .lt
    · rw [if_neg (fun y => cmpG.mp y z)]
      rw [decide_eq_true z] at k
      exact ⟨_, rfl, k⟩
    · rw [if_pos (cmpG.mpr z)]
      rw [decide_eq_false z] at k
      exact ⟨_, rfl, k⟩
  · have e24 := hn.2.2.2 t ht (by simpa [tr_its] using c)
    rw [show gi h (f + 24) t = -1 from e24, if_pos rfl]
    rw [rsd_out c] at k
    exact ⟨_, rfl, k⟩
theorem s_raisedIn {Q : Int32 → pm_H → Prop} {hs : Hs} {T : Tr} {w : Nat} {x : Int32} {hp : Nat → Int32} (hF : Fa h f) (hP : Pk h) (hn : RC (gi h) f hs .leaf) (hw : wf hs T w) (hv : ∀ t, t < 20 → gi h (f + 26) t = hp t) (k : Q (nI (cnt (fun t => decide (hp t = x) && rsd (kLt (gf h 16)) hs t) 20)) h) : ci G (d + 3) m_X0_raisedIn [.ref f, .int x] h Q := by
  refine ci_wp rfl (Nat.le_of_ble_eq_true rfl) rfl (x_X0_raisedIn ?_)
  refine up_to (P := fun n => Wp G (m_X0_raisedIn, d + 2 + 1, 0, 0, fun v h1 => ∃ r, v = some (.int r) ∧ Q r h1) (0, 0) 4 [.ref f, .int x, .int (nI (cnt (fun t => decide (hp t = x) && rsd (kLt (gf h 16)) hs t) n)), .int (nI n)] [] h) 20 (fun n hn20 ih => ?_) ?_
  · refine x_X0_raisedIn_4 ?_
    rw [if_neg (li_no 20 20 rfl hn20 (by decide))]
    refine ⟨hF.1, f_at13 hF ?_⟩
    rw [rd_in hn20 (by decide), hv n hn20, nI_1, nI_1]
    have key := cnt_b (p := fun t => decide (hp t = x) && rsd (kLt (gf h 16)) hs t) (n := n)
    by_cases c : hp n = x
    · rw [if_pos c]
      refine ⟨hF.1, s_isRaised hF hP hn hw hn20 ?_⟩
      simp only [decide_eq_true c, Bool.true_and] at key
      by_cases z : rsd (kLt (gf h 16)) hs n = true
      · rw [if_neg (by rw [z]; decide)]
        rw [z] at key
        rw [b2i_t, nI_1] at key; rw [key]; exact ih
      · have z : rsd (kLt (gf h 16)) hs n = false := by simpa using z
        rw [if_pos (by rw [z]; decide)]
        rw [z] at key
        rw [b2i_f] at key; rw [key]; exact ih
    · rw [if_neg c]
      simp only [decide_eq_false c, Bool.false_and] at key
      rw [b2i_f] at key; rw [key]; exact ih
  · refine x_X0_raisedIn_4 ?_
    rw [if_pos (li_yes 20 20 rfl)]
    exact ⟨_, rfl, k⟩
theorem s_raisedInAll {Q : Int32 → pm_H → Prop} {hs : Hs} {T : Tr} {w : Nat} (hF : Fa h f) (hP : Pk h) (hn : RC (gi h) f hs .leaf) (hw : wf hs T w) (k : Q (nI (cnt (rsd (kLt (gf h 16)) hs) 20)) h) : ci G (d + 3) m_X0_raisedInAll [.ref f] h Q := by
  refine ci_wp rfl (Nat.le_of_ble_eq_true rfl) rfl (x_X0_raisedInAll ?_)
  refine up_to (P := fun n => Wp G (m_X0_raisedInAll, d + 2 + 1, 0, 0, fun v h1 => ∃ r, v = some (.int r) ∧ Q r h1) (0, 0) 4 [.ref f, .int (nI (cnt (rsd (kLt (gf h 16)) hs) n)), .int (nI n)] [] h) 20 (fun n hn20 ih => ?_) ?_
  · refine x_X0_raisedInAll_4 ?_
    rw [if_neg (li_no 20 20 rfl hn20 (by decide))]
    refine ⟨hF.1, s_isRaised hF hP hn hw hn20 ?_⟩
    rw [nI_1, nI_1]
    have key := cnt_b (p := rsd (kLt (gf h 16)) hs) (n := n)
    by_cases z : rsd (kLt (gf h 16)) hs n = true
    · rw [if_neg (by rw [z]; decide)]
      rw [z] at key
      rw [b2i_t, nI_1] at key; rw [key]; exact ih
    · have z : rsd (kLt (gf h 16)) hs n = false := by simpa using z
      rw [if_pos (by rw [z]; decide)]
      rw [z] at key
      rw [b2i_f] at key; rw [key]; exact ih
  · refine x_X0_raisedInAll_4 ?_
    rw [if_pos (li_yes 20 20 rfl)]
    exact ⟨_, rfl, k⟩
theorem s_itemsOnFloor {Q : Int32 → pm_H → Prop} {N : Nat} {hp sv : Nat → Int32} (hF : Fa h f) (hL : La h) (hN : gi h 8 1 = nI N) (hN2 : N ≤ 20) (hv : ∀ t, t < 20 → gi h (f + 26) t = hp t ∧ gi h (f + 28) t = sv t) (k : Q (nI (cnt (fun t => decide (hp t = -1) && decide (sv t = -1)) N)) h) : ci G (d + 2) m_X0_itemsOnFloor [.ref f] h Q := by
  have g0 : gp h f 0 = 3 := hF.2.1
  have g2 : gp h 3 2 = 8 := hL.p (by decide +kernel) (by omega)
  refine ci_wp rfl (Nat.le_of_ble_eq_true rfl) rfl (x_X0_itemsOnFloor ?_)
  refine up_to (P := fun n => Wp G (m_X0_itemsOnFloor, d + 1 + 1, 0, 0, fun v h1 => ∃ r, v = some (.int r) ∧ Q r h1) (0, 0) 4 [.ref f, .int (nI (cnt (fun t => decide (hp t = -1) && decide (sv t = -1)) n)), .int (nI n)] [] h) N (fun n hnN ih => ?_) ?_
  · refine x_X0_itemsOnFloor_4 ?_
    rw [g0, g2, hN]
    refine ⟨hF.1, hL.lw.1.1, hL.k (by decide +kernel), ?_⟩
    rw [if_neg (show ¬ nI N ≤ nI n from nI_nlen hnN (by omega))]
    refine ⟨f_row13 hF, g_at13 hF ?_⟩
    have hn20 : n < 20 := by omega
    rw [rd_in hn20 (by decide), (hv n hn20).1, nI_1, nI_1]
    have key := cnt_b (p := fun t => decide (hp t = -1) && decide (sv t = -1)) (n := n)
    by_cases c : hp n = -1
    · rw [if_pos c]
      refine ⟨hF.1, f_at14 hF ?_⟩
      rw [rd_in hn20 (by decide), (hv n hn20).2]
      simp only [decide_eq_true c, Bool.true_and] at key
      by_cases z : sv n = -1
      · rw [if_pos z]
        rw [decide_eq_true z] at key
        rw [b2i_t, nI_1] at key; rw [key]; exact ih
      · rw [if_neg z]
        rw [decide_eq_false z] at key
        rw [b2i_f] at key; rw [key]; exact ih
    · rw [if_neg c]
      simp only [decide_eq_false c, Bool.false_and] at key
      rw [b2i_f] at key; rw [key]; exact ih
  · refine x_X0_itemsOnFloor_4 ?_
    rw [g0, g2, hN]
    refine ⟨hF.1, hL.lw.1.1, hL.k (by decide +kernel), ?_⟩
    rw [if_pos (by rw [i_le]; exact Int.le_refl _)]
    exact ⟨_, rfl, k⟩
theorem s_nodesUnder {Q : Int32 → pm_H → Prop} {hs : Hs} {q w : Nat} (hF : Fa h f) (hn : RC (gi h) f hs .leaf) (hw : wf hs .leaf w) (hw2 : w ≤ 1000) (hq : q < 72) (hl : isL (hs q) = false) (k : Q (nI (tr_ids (hs q)).length) h) : ci G (d + 3) m_X0_nodesUnder [.ref f, .int (tr_no (hs q))] h Q := by
  have hnd : (aids hs).Nodup := (List.nodup_append.mp hw.1).1
  have e : cnt (fun j => decide (j ∈ tr_ids (hs q))) 24 = (tr_ids (hs q)).length := cnt_len (aids_nd hnd hq) (fun t ht => hw.2.2.2.1 t (List.mem_append_left _ (aids_mem.mpr ⟨q, hq, ht⟩))) (fun t _ => decide_eq_true_iff)
  rw [← e] at k
  refine ci_wp rfl (Nat.le_of_ble_eq_true rfl) rfl (x_X0_nodesUnder ?_)
  refine up_to (P := fun n => Wp G (m_X0_nodesUnder, d + 2 + 1, 0, 0, fun v h1 => ∃ r, v = some (.int r) ∧ Q r h1) (0, 0) 4 [.ref f, .int (tr_no (hs q)), .int (nI (cnt (fun j => decide (j ∈ tr_ids (hs q))) n)), .int (nI n)] [] h) 24 (fun n hn24 ih => ?_) ?_
  · refine x_X0_nodesUnder_4 ?_
    rw [if_neg (li_no 24 24 rfl hn24 (by decide))]
    refine ⟨hF.1, f_at1 hF ?_⟩
    rw [rd_in hn24 (by decide), nI_1, nI_1]
    have key := cnt_b (p := fun j => decide (j ∈ tr_ids (hs q))) (n := n)
    by_cases c : n ∈ aids hs
    · rw [if_neg (hn.live hw hw2 n (List.mem_append_left _ c))]
      obtain ⟨q', hq', c'⟩ := aids_mem.mp c
      refine ⟨hF.1, s_rootOver hF (hn.1 q' hq').1 (hw.2.2.2.2.1 q' hq').2.1 c' (hw.lt24 hq') ?_⟩
      by_cases z : n ∈ tr_ids (hs q)
      · have e2 : q = q' := aids_one hnd hq hq' z c'
        rw [e2, if_pos rfl]
        rw [decide_eq_true z] at key
        rw [b2i_t, nI_1] at key; rw [← e2, key]; exact ih
      · have ne : ¬ tr_no (hs q') = tr_no (hs q) := by
          intro y
          have hl' : isL (hs q') = false := by
            cases e3 : hs q' with
            | leaf => rw [e3] at c'; cases c'
            | inner => rfl
          obtain ⟨a1, a1', b1, c1⟩ := (hn.1 q' hq').1.noId hl'
          obtain ⟨a2, a2', b2, c2⟩ := (hn.1 q hq).1.noId hl
          rw [b1, b2] at y
          have e4 : a1 = a2 := by
            have := congrArg Int32.toInt y
            rw [nI_toInt (by omega), nI_toInt (by omega)] at this
            omega
          rw [e4] at c1
          have e5 := aids_one hnd hq' hq c1 c2
          rw [e5] at c'
          exact z c'
        rw [if_neg ne]
        rw [decide_eq_false z] at key
        rw [b2i_f] at key; rw [key]; exact ih
    · have e1 : gi h (f + 2) n = -1 := hn.2.2.1 n hn24 (by simpa [tr_ids] using c)
      rw [if_pos e1]
      have z : ¬ n ∈ tr_ids (hs q) := fun z => c (aids_mem.mpr ⟨q, hq, z⟩)
      rw [decide_eq_false z] at key
      rw [b2i_f] at key; rw [key]; exact ih
  · refine x_X0_nodesUnder_4 ?_
    rw [if_pos (li_yes 24 24 rfl)]
    exact ⟨_, rfl, k⟩
end NDS
