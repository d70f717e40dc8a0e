/-! MELD -/
def moveA (lt : Nat → Nat → Bool) (tvf : Int32 → Nat → Int32 → Int32) (A : AF) (a b r : Nat) : AF :=
  if isL (A.1 (24 * a + r)) = true then A else
    (joinF lt (tvf (hcount (fun u => if u ∈ tr_its (A.1 (24 * a + r)) then nI b else A.2.1 u) b)) (24 - r) (up1 A.1 (24 * a + r) .leaf) (A.1 (24 * a + r)) b r, (fun u => if u ∈ tr_its (A.1 (24 * a + r)) then nI b else A.2.1 u), A.2.2)
def meldF (lt : Nat → Nat → Bool) (tvf : Int32 → Nat → Int32 → Int32) (a b : Nat) : Nat → AF → AF
  | 0, A => A
  | n + 1, A => moveA lt tvf (meldF lt tvf a b n A) a b n
def meldA (lt : Nat → Nat → Bool) (tvf : Int32 → Nat → Int32 → Int32) (A : AF) (a b : Nat) : AF := meldF lt tvf a b 24 A
theorem wf_out {hs : Hs} {w q : Nat} (h : wf hs .leaf w) (hq : q < 72) (hl : isL (hs q) = false) : wf (up1 hs q .leaf) (hs q) w ∧ tr_rk (hs q) = q % 24 := by
  obtain ⟨a1, a2, a3, a4, a5, -, -, a8⟩ := h
  have pi := aids_up (hs := hs) (q := q) .leaf hq
  have pt := aits_up (hs := hs) (q := q) .leaf hq
  have ps := wsum_up (hs := hs) (q := q) .leaf hq
  have e2 : ∀ x, trw Std.DTreeMap.Internal.Impl.leaf x = 0 := fun _ => rfl
  rw [show tr_ids .leaf = [] from rfl, List.nil_append] at pi
  rw [show tr_its .leaf = [] from rfl, List.nil_append] at pt
  rw [show tr_ids .leaf = [] from rfl, List.append_nil] at a1 a4
  rw [show tr_its .leaf = [] from rfl, List.append_nil] at a2 a3
  have hrk := (a5 q hq).2.2 hl
  refine ⟨⟨pi.nodup_iff.mpr a1, pt.nodup_iff.mpr a2, fun u hu => a3 u (pt.mem_iff.mp hu), fun u hu => a4 u (pi.mem_iff.mp hu), fun x hx => ?_, (a5 q hq).1, (a5 q hq).2.1, ?_⟩, hrk⟩
  · by_cases z : x = q
    · rw [z, up1_at]; exact ⟨trivial, trivial, fun y => by cases y⟩
    · rw [up1_ne _ _ z]; exact a5 x hx
  · rw [hrk]
    rw [e2] at ps a8
    omega
theorem okA_move {lt : Nat → Nat → Bool} {tvf : Int32 → Nat → Int32 → Int32} {A : AF} {w a b r : Nat} (h : okA A w) (ha : a < 3) (hb : b < 3) (hab : a ≠ b) (hr : r < 24) (hw : w ≤ 1000) (hpos : ∀ al r g, 0 < tvf al r g) : okA (moveA lt tvf A a b r) w := by
  unfold moveA
  split
  next c => exact h
  next c =>
    have c' : isL (A.1 (24 * a + r)) = false := by simpa using c
    have hq : 24 * a + r < 72 := by omega
    obtain ⟨w1, w2⟩ := wf_out h.1 hq c'
    have w2 : tr_rk (A.1 (24 * a + r)) = r := by omega
    obtain ⟨z1, z2, z3⟩ := joinF_ok (lt := lt) (tv := tvf (hcount (fun u => if u ∈ tr_its (A.1 (24 * a + r)) then nI b else A.2.1 u) b)) hb hw (hpos _) (24 - r) r (up1 A.1 (24 * a + r) .leaf) (A.1 (24 * a + r)) (by omega) w1 c' w2
    refine ⟨z1, fun u hu => ?_, fun u e hu he => ?_⟩
    · show (if u ∈ tr_its (A.1 (24 * a + r)) then nI b else A.2.1 u) = -1 ∨ ∃ e, e < 3 ∧ (if u ∈ tr_its (A.1 (24 * a + r)) then nI b else A.2.1 u) = nI e
      split
      · exact Or.inr ⟨b, hb, rfl⟩
      · exact h.2.1 u hu
    · show (if u ∈ tr_its (A.1 (24 * a + r)) then nI b else A.2.1 u) = nI e ↔ ∃ r', r' < 24 ∧ u ∈ tr_its (joinF lt (tvf (hcount (fun u => if u ∈ tr_its (A.1 (24 * a + r)) then nI b else A.2.1 u) b)) (24 - r) (up1 A.1 (24 * a + r) .leaf) (A.1 (24 * a + r)) b r (24 * e + r'))
      have h0 : ∀ r', r' < 24 → 24 * e + r' ≠ 24 * a + r → up1 A.1 (24 * a + r) .leaf (24 * e + r') = A.1 (24 * e + r') := fun r' _ hne => up1_ne _ _ hne
      by_cases heb : e = b
      · subst heb
        rw [z3 u]
        split
        next c2 => exact ⟨fun _ => Or.inr c2, fun _ => rfl⟩
        next c2 =>
          rw [h.2.2 u e hu he]
          constructor
          · rintro ⟨r', g1, g2⟩
            exact Or.inl ⟨r', g1, by rw [h0 r' g1 (by omega)]; exact g2⟩
          · rintro (⟨r', g1, g2⟩ | g2)
            · exact ⟨r', g1, by rw [h0 r' g1 (by omega)] at g2; exact g2⟩
            · exact absurd g2 c2
      · have hj : ∀ r', r' < 24 → joinF lt (tvf (hcount (fun u => if u ∈ tr_its (A.1 (24 * a + r)) then nI b else A.2.1 u) b)) (24 - r) (up1 A.1 (24 * a + r) .leaf) (A.1 (24 * a + r)) b r (24 * e + r') = up1 A.1 (24 * a + r) .leaf (24 * e + r') := fun r' hr' => z2 _ (by omega) (by omega)
        split
        next c2 =>
          constructor
          · intro y; exact absurd ((nI_eq (by omega) (by omega)).mp y).symm heb
          · rintro ⟨r', g1, g2⟩
            exfalso
            rw [hj r' g1] at g2
            exact (List.nodup_append.mp w1.2.1).2.2 u (aits_mem.mpr ⟨_, by omega, g2⟩) u c2 rfl
        next c2 =>
          rw [h.2.2 u e hu he]
          constructor
          · rintro ⟨r', g1, g2⟩
            refine ⟨r', g1, ?_⟩
            rw [hj r' g1, h0 r' g1 (fun y => c2 (y ▸ g2))]
            exact g2
          · rintro ⟨r', g1, g2⟩
            refine ⟨r', g1, ?_⟩
            rw [hj r' g1] at g2
            by_cases y : 24 * e + r' = 24 * a + r
            · rw [y, up1_at] at g2; cases g2
            · rw [h0 r' g1 y] at g2; exact g2
theorem okA_meldF {lt : Nat → Nat → Bool} {tvf : Int32 → Nat → Int32 → Int32} {A : AF} {w a b : Nat} (h : okA A w) (ha : a < 3) (hb : b < 3) (hab : a ≠ b) (hw : w ≤ 1000) (hpos : ∀ al r g, 0 < tvf al r g) : ∀ n, n ≤ 24 → okA (meldF lt tvf a b n A) w
  | 0, _ => h
  | n + 1, hn => okA_move (okA_meldF h ha hb hab hw hpos n (by omega)) ha hb hab (by omega) hw hpos
/-! the way up to the ROOT -/
section CLB
variable {G : pm_G} {d : Nat} {h : pm_H} {f : Nat} {post : pm_PT}
theorem s_climb (hF : Fa h f) : ∀ (T : Tr) (p : Int32) (k j : Nat), NC (gi h) f p T → TR T → j ∈ tr_ids T → k + tr_rk T < 24 →
    (∀ k', k' ≤ k + tr_rk T → Wp G (m_X0_rootOver, d + 2, 0, 0, post) (0, 0) 4 [.ref f, .null, .int (tr_no T), .int (nI k')] [] h) →
    Wp G (m_X0_rootOver, d + 2, 0, 0, post) (0, 0) 4 [.ref f, .null, .int (nI j), .int (nI k)] [] h
  | .leaf, _, _, _, _, _, hj, _, _ => by cases hj
  | .inner z n u l r, p, k, j, ⟨hn, hl, hr⟩, ⟨t1, t2, t3, t4⟩, hj, hk, w => by
    have hk : k + n_rk n < 24 := hk
    have w : ∀ k', k' ≤ k + n_rk n → Wp G (m_X0_rootOver, d + 2, 0, 0, post) (0, 0) 4 [.ref f, .null, .int (nI n.1), .int (nI k')] [] h := w
    have side : ∀ c : Tr, NC (gi h) f (nI n.1) c → TR c → (isL c = true ∨ tr_rk c < n_rk n) → j ∈ tr_ids c → Wp G (m_X0_rootOver, d + 2, 0, 0, post) (0, 0) 4 [.ref f, .null, .int (nI j), .int (nI k)] [] h → Wp G (m_X0_rootOver, d + 2, 0, 0, post) (0, 0) 4 [.ref f, .null, .int (nI j), .int (nI k)] [] h := fun _ _ _ _ _ q => q
    have up : ∀ c : Tr, NC (gi h) f (nI n.1) c → j ∈ tr_ids c → (isL c = true ∨ tr_rk c < n_rk n) → ∀ k', k' ≤ k + tr_rk c → Wp G (m_X0_rootOver, d + 2, 0, 0, post) (0, 0) 4 [.ref f, .null, .int (tr_no c), .int (nI k')] [] h := by
      intro c hc hjc hrc k' hk'
      cases c with
      | leaf => cases hjc
      | inner z2 m u2 l2 r2 =>
        have hrc : n_rk m < n_rk n := hrc.resolve_left (fun q => by cases q)
        have hk' : k' ≤ k + n_rk m := hk'
        obtain ⟨hm, -, -⟩ := hc
        refine x_X0_rootOver_4 ?_
        rw [if_neg (li_no 24 24 rfl (by omega) (by decide))]
        refine ⟨hF.1, f_at9 hF ?_⟩
        rw [show tr_no (.inner z2 m u2 l2 r2) = nI m.1 from rfl, rd_in hm.1 (by decide), hm.2.2.2.2.2.2.2.2.2.2.2, if_neg (nI_nm1 (by have := hn.1; omega))]
        refine ⟨hF.1, f_at9 hF ?_⟩
        rw [rd_in hm.1 (by decide), hm.2.2.2.2.2.2.2.2.2.2.2, nI_1]
        exact w (k' + 1) (by omega)
    rcases List.mem_cons.mp hj with q | q
    · rw [q]; exact w k (by omega)
    · rcases List.mem_append.mp q with q | q
      · have hrl : tr_rk l ≤ n_rk n := by
          rcases t1 with y | y
          · rw [isL_leaf y] at q; cases q
          · omega
        exact s_climb hF l (nI n.1) k j hl t3 q (by omega) (up l hl q t1)
      · have hrr : tr_rk r ≤ n_rk n := by
          rcases t2 with y | y
          · rw [isL_leaf y] at q; cases q
          · omega
        exact s_climb hF r (nI n.1) k j hr t4 q (by omega) (up r hr q t2)
/-- where an ITEM of a TREE is -/
theorem NC.node {M : Nat → Nat → Int32} : ∀ {T : Tr} {p : Int32} {t : Nat}, NC M f p T → t ∈ tr_its T → ∃ j, j ∈ tr_ids T ∧ M (f + 24) t = nI j
  | .leaf, _, _, _, ht => by cases ht
  | .inner _ k _ l r, p, t, ⟨h1, h2, h3⟩, ht => by
    rcases List.mem_append.mp ht with q | q
    · exact ⟨k.1, List.mem_cons_self, (h1.2.2.2.2.2.2.2.2.1 t q).1⟩
    · rcases List.mem_append.mp q with q | q
      · obtain ⟨j, y1, y2⟩ := h2.node q
        exact ⟨j, List.mem_cons_of_mem _ (List.mem_append_left _ y1), y2⟩
      · obtain ⟨j, y1, y2⟩ := h3.node q
        exact ⟨j, List.mem_cons_of_mem _ (List.mem_append_right _ y1), y2⟩
theorem s_rootOver {Q : Int32 → pm_H → Prop} {T : Tr} {j : Nat} (hF : Fa h f) (hT : NC (gi h) f (-1) T) (hr : TR T) (hj : j ∈ tr_ids T) (hk : tr_rk T < 24) (k : Q (tr_no T) h) : ci G (d + 2) m_X0_rootOver [.ref f, .int (nI j)] h Q := by
  refine ci_wp rfl (Nat.le_of_ble_eq_true rfl) rfl (x_X0_rootOver ?_)
  refine s_climb hF T (-1) 0 j hT hr hj (by omega) (fun k' hk' => ?_)
  cases T with
  | leaf => cases hj
  | inner z n u l r =>
    refine x_X0_rootOver_4 ?_
    rw [if_neg (li_no 24 24 rfl (by have : tr_rk (.inner z n u l r) < 24 := hk; omega) (by decide))]
    refine ⟨hF.1, f_at9 hF ?_⟩
    rw [show tr_no (.inner z n u l r) = nI n.1 from rfl, rd_in hT.1.1 (by decide), hT.1.2.2.2.2.2.2.2.2.2.2.2, if_pos rfl]
    exact ⟨_, rfl, k⟩
theorem s_rootOver0 {Q : Int32 → pm_H → Prop} (hF : Fa h f) (k : Q (-1) h) : ci G (d + 2) m_X0_rootOver [.ref f, .int (-1)] h Q := by
  refine ci_wp rfl (Nat.le_of_ble_eq_true rfl) rfl (x_X0_rootOver (x_X0_rootOver_4 ?_))
  rw [if_neg (show ¬ (24 : Int32) ≤ 0 by decide)]
  refine ⟨hF.1, f_at9 hF ?_⟩
  rw [rd_m1, if_pos rfl]
  exact ⟨_, rfl, k⟩
end CLB
