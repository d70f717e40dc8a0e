/-! THE REFERENCE: TAKE -/
theorem lrF_16 {lt : Nat → Nat → Bool} {hs : Hs} {T : Tr} {w a : Nat} (h : wf hs T w) (hw : w ≤ 1000) (ha : a < 3) : ∀ k, k ≤ 8 → lrF lt hs a (16 + k) = lrF lt hs a 16
  | 0, _ => rfl
  | k + 1, hk => by
    show lrF lt hs a ((16 + k) + 1) = _
    rw [lrF, if_pos (h.high hw (by omega) (by omega))]
    exact lrF_16 h hw ha k (by omega)
theorem NR.ck {ky S : Nat → Int32} {b : Nat} {T : Tr} (h : NR ky S b T) (hw : TW T) (hl : isL T = false) : ∃ x, x < 24 ∧ tr_no T = nI x ∧ S (b + 8 * x + 2) = ky (tr_ld T) := by
  cases T with
  | leaf => cases hl
  | inner z k u l r => exact ⟨k.1, h.1.1, rfl, h.1.2.2.2.1 hw.1.1⟩
theorem rr_repl {ky S S' : Nat → Int32} {b w q : Nat} {hs : Hs} {T' : Tr} (h : wf hs .leaf w) (hw : w ≤ 1000) (hRC : RR ky S b hs .leaf) (hq : q < 72) (hN : NR ky S' b T') (h20 : ∀ a r, a < 3 → r < 16 → S' (b + 192 + 16 * a + r) = up1 (fun y => tr_no (hs y)) q (tr_no T') (24 * a + r)) (hn : ∀ n j, n < 24 → j < 8 → n ∉ tr_ids (hs q) → S' (b + 8 * n + j) = S (b + 8 * n + j)) (hi : ∀ u, u < 20 → u ∉ tr_its (hs q) → S' (b + 300 + u) = S (b + 300 + u))
    (h5 : ∀ j ∈ tr_ids T', j ∈ tr_ids (hs q)) (g1 : ∀ j ∈ tr_ids (hs q), j ∉ tr_ids T' → S' (b + 8 * j) = -1) : RR ky S' b (up1 hs q T') .leaf := by
  obtain ⟨a1, a2, -⟩ := h
  have e0 : tr_ids .leaf = [] := rfl
  have e1 : tr_its .leaf = [] := rfl
  rw [e0, List.append_nil] at a1
  rw [e1, List.append_nil] at a2
  have pi := aids_up (hs := hs) (q := q) .leaf hq
  have pt := aits_up (hs := hs) (q := q) .leaf hq
  rw [e0, List.nil_append] at pi
  rw [e1, List.nil_append] at pt
  obtain ⟨b1, b2, b3⟩ := List.nodup_append.mp (pi.nodup_iff.mpr a1)
  obtain ⟨c1, c2, c3⟩ := List.nodup_append.mp (pt.nodup_iff.mpr a2)
  refine ⟨fun a r ha hr => ?_, trivial, fun j hj hj2 => ?_⟩
  · rw [h20 a r ha hr]
    by_cases z : 24 * a + r = q
    · rw [z, up1_at, up1_at]; exact ⟨hN, rfl⟩
    · rw [up1_ne hs _ z, up1_ne _ _ z]
      have hx : 24 * a + r < 72 := by omega
      have d1 : ∀ j ∈ tr_ids (hs (24 * a + r)), j ∉ tr_ids (hs q) := fun j y1 y2 => b3 j (aids_mem.mpr ⟨_, hx, by rw [up1_ne hs _ z]; exact y1⟩) j y2 rfl
      have d2 : ∀ j ∈ tr_its (hs (24 * a + r)), j ∉ tr_its (hs q) := fun j y1 y2 => c3 j (aits_mem.mpr ⟨_, hx, by rw [up1_ne hs _ z]; exact y1⟩) j y2 rfl
      refine ⟨?_, rfl⟩
      have go : ∀ {X : Tr}, NR ky S b X → (∀ j ∈ tr_ids X, j ∉ tr_ids (hs q)) → (∀ j ∈ tr_its X, j ∉ tr_its (hs q)) → NR ky S' b X := by
        intro X
        induction X with
        | leaf => intro _ _ _; trivial
        | inner z k u l r ihl ihr =>
          rintro ⟨y1, y2, y3⟩ m1 m2
          exact ⟨y1.congr (fun w hw => hn _ _ y1.1 hw (m1 _ List.mem_cons_self)) (fun t ht => hi t (y1.2.2.2.2.2.2.2.2.2.2 t ht) (m2 t (List.mem_append_left _ ht))), ihl y2 (fun j hj => m1 j (List.mem_cons_of_mem _ (List.mem_append_left _ hj))) (fun j hj => m2 j (List.mem_append_right _ (List.mem_append_left _ hj))), ihr y3 (fun j hj => m1 j (List.mem_cons_of_mem _ (List.mem_append_right _ hj))) (fun j hj => m2 j (List.mem_append_right _ (List.mem_append_right _ hj)))⟩
      exact go (hRC.1 a r ha hr).1 d1 d2
  · rw [e0, List.append_nil] at hj2
    have z : j ∉ tr_ids T' := fun y => hj2 (aids_mem.mpr ⟨q, hq, by rw [up1_at]; exact y⟩)
    by_cases y : j ∈ tr_ids (hs q)
    · exact g1 j y z
    · rw [show b + 8 * j = b + 8 * j + 0 from rfl, hn j 0 hj (by decide) y]
      refine hRC.2.2 j hj (fun y2 => ?_)
      rw [e0, List.append_nil] at y2
      obtain ⟨x, hx, y3⟩ := aids_mem.mp y2
      have : x ≠ q := fun v => y (v ▸ y3)
      exact hj2 (aids_mem.mpr ⟨x, hx, by rw [up1_ne hs _ this]; exact y3⟩)
section RTA
variable {G : pm_G} {d : Nat} {h : pm_H} {S : Nat → Int32}
theorem r_nextRoot {ky : Nat → Int32} {Q : Int32 → pm_H → Prop} {hs : Hs} {a b w : Nat} (hM : Md h) (hb : b + 320 ≤ 4485) (ha : a < 3) (hw : w ≤ 1000) (hwf : wf hs .leaf w) (hn : ∀ r, r < 16 → NR ky S b (hs (24 * a + r)) ∧ S (b + 192 + 16 * a + r) = tr_no (hs (24 * a + r)))
    (k : Q (tr_no (trO hs a (lrF (rLt ky) hs a 24))) (s8 h S)) : ci G (d + 2) m_X12_nextRoot [.ref 446, .int (nI b), .int (nI a)] (s8 h S) Q := by
  rw [show (24 : Nat) = 16 + 8 from rfl, lrF_16 hwf hw ha 8 (Nat.le_refl _)] at k
  refine ci_wp rfl (Nat.le_of_ble_eq_true rfl) rfl (x_X12_nextRoot ?_)
  refine up_to (P := fun n => Wp G (m_X12_nextRoot, d + 1 + 1, 0, 0, fun v h1 => ∃ r, v = some (.int r) ∧ Q r h1) (0, 0) 5 [.ref 446, .int (nI b), .int (nI a), .int (tr_no (trO hs a (lrF (rLt ky) hs a n))), .int (nI n), .null] [] (s8 h S)) 16 (fun n hn16 ih => ?_) ?_
  · refine x_X12_nextRoot_5 ?_
    rw [if_neg (li_no 16 16 rfl hn16 (by decide))]
    obtain ⟨c1, c2⟩ := hn n hn16
    refine ⟨hM.1, r_rootAt hM (by omega) ?_⟩
    rw [c2]
    have hq : 24 * a + n < 72 := by omega
    by_cases hX : isL (hs (24 * a + n)) = true
    · rw [if_pos (c1.m1.2.1.mpr hX), nI_1]
      rw [lrF, if_pos hX] at ih
      exact ih
    · have hX' : isL (hs (24 * a + n)) = false := by simpa using hX
      rw [if_neg (fun z => hX (c1.m1.2.1.mp z)), nI_1]
      rw [lrF, if_neg hX] at ih
      cases hbb : lrF (rLt ky) hs a n with
      | none =>
        rw [hbb] at ih
        rw [if_pos (show tr_no (trO hs a none) < 0 from (by decide : (-1 : Int32) < 0))]
        exact ih
      | some r =>
        rw [hbb] at ih
        obtain ⟨b1, b2⟩ := lrF_ok hbb
        have hqb : 24 * a + r < 72 := by omega
        obtain ⟨d1, d2⟩ := hn r (by omega)
        rw [if_neg (fun z => by
          have z : tr_no (hs (24 * a + r)) < 0 := z
          rw [d1.m1.2.1.mp z] at b2
          cases b2)]
        obtain ⟨x, x1, x2, x3⟩ := c1.ck (hwf.2.2.2.2.1 _ hq).1 hX'
        obtain ⟨y, y1, y2, y3⟩ := d1.ck (hwf.2.2.2.2.1 _ hqb).1 b2
        rw [show tr_no (trO hs a (some r)) = tr_no (hs (24 * a + r)) from rfl, x2, y2]
        refine ⟨hM.1, r_nodeOf (w := 2) hM (by omega) ⟨hM.1, r_nodeOf (w := 2) hM (by omega) ?_⟩⟩
        rw [x3, y3]
        have ih : Wp G (m_X12_nextRoot, d + 1 + 1, 0, 0, fun v h1 => ∃ r, v = some (.int r) ∧ Q r h1) (0, 0) 5 [.ref 446, .int (nI b), .int (nI a), .int (tr_no (trO hs a (if rLt ky (tr_ld (hs (24 * a + n))) (tr_ld (hs (24 * a + r))) = true then some n else some r))), .int (nI (n + 1)), .null] [] (s8 h S) := ih
        by_cases hc : ky (tr_ld (hs (24 * a + n))) < ky (tr_ld (hs (24 * a + r)))
        · rw [if_neg (Int32.not_le.mpr hc)]
          rw [if_pos (by unfold rLt; exact decide_eq_true hc), show tr_no (trO hs a (some n)) = nI x from x2] at ih
          exact ih
        · rw [if_pos (Int32.not_lt.mp hc)]
          rw [if_neg (by unfold rLt; rw [decide_eq_false hc]; exact Bool.noConfusion), show tr_no (trO hs a (some r)) = nI y from y2] at ih
          exact ih
  · refine x_X12_nextRoot_5 ?_
    rw [if_pos (li_yes 16 16 rfl)]
    exact ⟨_, rfl, k⟩
theorem r_takes {ky : Nat → Int32} {Q : Int32 → pm_H → Prop} {a b w : Nat} {A : AF} (hM : Md h) (hb : b + 320 ≤ 4485) (ha : a < 3) (hw : w ≤ 1000) (hA : okA A w) (hC : RA ky S b A)
    (k0 : takeA (rLt ky) A a = none → Q (-1) (s8 h S)) (k1 : ∀ t A', takeA (rLt ky) A a = some (t, A') → ∀ S', RA ky S' b A' → RZ S S' b → Q (nI t) (s8 h S')) : ci G (d + 20) m_X12_takes [.ref 446, .int (nI b), .int (nI a)] (s8 h S) Q := by
  refine ci_wp rfl (Nat.le_of_ble_eq_true rfl) rfl (x_X12_takes ⟨hM.1, r_nextRoot (d := d + 17) hM hb ha hw hA.1 (fun r hr => hC.1.1 a r ha hr) ?_⟩)
  unfold takeA at k0 k1
  cases hr : lrF (rLt ky) A.1 a 24 with
  | none =>
    rw [hr] at k0
    rw [if_neg (show ¬ 0 ≤ tr_no (trO A.1 a none) from (by decide : ¬ (0 : Int32) ≤ -1))]
    exact ⟨_, rfl, k0 rfl⟩
  | some r =>
    rw [hr] at k1
    have k1 := k1 _ _ rfl
    have hr16 : r < 16 := by
      rw [show (24 : Nat) = 16 + 8 from rfl, lrF_16 hA.1 hw ha 8 (Nat.le_refl _)] at hr
      exact (lrF_ok hr).1
    obtain ⟨hr1, hr2⟩ := lrF_ok hr
    have hq : 24 * a + r < 72 := by omega
    obtain ⟨a1, a2, a3, a4, a5, -, -, a8⟩ := hA.1
    obtain ⟨x1, x2, x3⟩ := a5 _ hq
    have few := hA.1.few.2
    have pi := aids_up (hs := A.1) (q := 24 * a + r) .leaf hq
    have pt := aits_up (hs := A.1) (q := 24 * a + r) .leaf hq
    rw [show tr_ids .leaf = [] from rfl, List.nil_append] at pi
    rw [show tr_its .leaf = [] from rfl, List.nil_append] at pt
    rw [show tr_ids .leaf = [] from rfl, List.append_nil] at a1
    rw [show tr_its .leaf = [] from rfl, List.append_nil] at a2 a3 few
    have hid := (List.nodup_append.mp (pi.nodup_iff.mpr a1)).2.1
    have hit := (List.nodup_append.mp (pt.nodup_iff.mpr a2)).2.1
    have hlen : (tr_its (A.1 (24 * a + r))).length ≤ 20 := by
      have := pt.length_eq
      rw [List.length_append] at this
      omega
    have x3 := x3 hr2
    have hrk : tr_rk (A.1 (24 * a + r)) ≤ 16 := by rw [x3]; omega
    obtain ⟨cN, c20⟩ := hC.1.1 a r ha hr16
    have rep := fun (S' : Nat → Int32) (T' : Tr) => rr_repl (S' := S') (T' := T') hA.1 hw hC.1 hq
    have hCi := hC.2
    have hroot : ∀ a' r', a' < 3 → r' < 16 → S (b + 192 + 16 * a' + r') = tr_no (A.1 (24 * a' + r')) := fun a' r' h1 h2 => (hC.1.1 a' r' h1 h2).2
    rw [show trO A.1 a (some r) = A.1 (24 * a + r) from rfl]
    have hitl : ∀ u ∈ tr_its (A.1 (24 * a + r)), u < 20 := fun u hu => a3 u (aits_mem.mpr ⟨_, hq, hu⟩)
    generalize hT : A.1 (24 * a + r) = T at *
    cases T with
    | leaf => cases hr2
    | inner z k u l rr =>
      obtain ⟨⟨q1, q2, q3⟩, wl, wr'⟩ := x1
      obtain ⟨id, rk, tg, ld, ls⟩ := k
      cases ls with
      | nil => exact absurd rfl q1
      | cons t rest =>
        have eT : takT (rLt ky) (.inner z (id, rk, tg, ld, t :: rest) u l rr) = (if tg / 2 < nI rest.length then tn (id, rk, tg, ld, rest) l rr else if isL l = true ∧ isL rr = true then (if rest = [] then .leaf else tn (id, rk, tg, ld, rest) l rr) else siftT (rLt ky) (id, rk, tg, ld, rest) l rr) := rfl
        rw [show takI (.inner z (id, rk, tg, ld, t :: rest) u l rr) = t from rfl, eT] at k1
        have hit' : (t :: (rest ++ (tr_its l ++ tr_its rr))).Nodup := hit
        obtain ⟨n1, n2⟩ := List.nodup_cons.mp hit'
        obtain ⟨i1, i2⟩ := List.nodup_cons.mp (show (id :: (tr_ids l ++ tr_ids rr)).Nodup from hid)
        obtain ⟨⟨c0, c1, c2, c3, c4, c5, c6, c7, c8, c9, c10⟩, cl, cr⟩ := cN
        simp only [n_ls, n_tg, n_rk, n_ld, ne_eq, reduceCtorEq, not_false_eq_true, forall_const] at c1 c2 c3 c4 c5 c6 c9 c10
        have ht : t < 20 := c10 t List.mem_cons_self
        have hlen3 : rest.length ≤ 19 := by
          have : (t :: (rest ++ (tr_its l ++ tr_its rr))).length ≤ 20 := hlen
          rw [List.length_cons, List.length_append] at this
          omega
        have hxr : rk = r := by
          have : rk = (24 * a + r) % 24 := x3
          omega
        rw [show tr_no (.inner z (id, rk, tg, ld, t :: rest) u l rr) = nI id from rfl, if_pos (nI_0le (by omega))]
        have g17 : ∀ S', gp (s8 h S') 446 17 = 458 := fun _ => hM.2.1
        refine ⟨hM.1, r_nodeOf (d := d + 18) (w := 4) hM (by omega) ?_⟩
        rw [c5, show hdI (t :: rest) = nI t from rfl, g17, show (300 : Int32) = nI 300 from rfl, ixg, cl_nI (show b + 300 + t < 2 ^ 31 by omega), s8_gi, show S (b + 300 + t) = hdI rest from c9.1]
        refine ⟨hM.1, 4485, hM.2.2, vp_nI (by omega) (by decide), r_lays (d := d + 18) (w := 4) hM (by omega) ⟨hM.1, r_nodeOf (d := d + 18) (w := 3) hM (by omega) ?_⟩⟩
        rw [up1_ne _ _ (show b + 8 * id + 3 ≠ b + 8 * id + 4 by omega), c4, show nI (t :: rest).length - 1 = nI rest.length by rw [List.length_cons, ← nI_1]; simp [Int32.add_sub_cancel]]
        refine ⟨hM.1, r_lays (d := d + 18) (w := 3) hM (by omega) ⟨hM.1, r_nodeOf (d := d + 18) (w := 3) hM (by omega) ?_⟩⟩
        rw [up1_at]
        -- what comes after the item is out
        have after : ∀ S2 : Nat → Int32, (∀ i, (i ≠ b + 8 * id + 3 ∧ i ≠ b + 8 * id + 4 ∧ i ≠ b + 8 * id + 5) → S2 i = S i) → S2 (b + 8 * id + 3) = nI rest.length → S2 (b + 8 * id + 4) = hdI rest → (rest ≠ [] → S2 (b + 8 * id + 5) = laI rest) → Wp G (m_X12_takes, d + 19 + 1, 0, 0, fun v h1 => ∃ r, v = some (.int r) ∧ Q r h1) (0, 0) 76 [.ref 446, .int (nI b), .int (nI a), .int (nI id), .int (nI t)] [] (s8 h S2) := by
          intro S2 e1 e3 e4 e5
          refine x_X12_takes_76 ?_
          rw [g17, show (300 : Int32) = nI 300 from rfl, show (240 : Int32) = nI 240 from rfl, ixg, ixg, cl_nI (show b + 300 + t < 2 ^ 31 by omega), cl_nI (show b + 240 + t < 2 ^ 31 by omega)]
          refine ⟨hM.1, 4485, hM.2.2, vp_nI (by omega) (by decide), ?_⟩
          rintro _ rfl
          rw [s8_si, g17]
          refine ⟨4485, hM.2.2, vp_nI (by omega) (by decide), ?_⟩
          rintro _ rfl
          rw [s8_si]
          have f1 : ∀ i, i ≠ b + 8 * id + 3 → i ≠ b + 8 * id + 4 → i ≠ b + 8 * id + 5 → i ≠ b + 300 + t → i ≠ b + 240 + t → up1 (up1 S2 (b + 300 + t) (-1)) (b + 240 + t) (-1) i = S i := fun i y1 y2 y3 y4 y5 => by
            rw [up1_ne _ _ y5, up1_ne _ _ y4]; exact e1 i ⟨y1, y2, y3⟩
          have f2 : up1 (up1 S2 (b + 300 + t) (-1)) (b + 240 + t) (-1) (b + 240 + t) = -1 := up1_at _ _ _
          have f3 : up1 (up1 S2 (b + 300 + t) (-1)) (b + 240 + t) (-1) (b + 8 * id + 3) = nI rest.length := by rw [up1_ne _ _ (by omega), up1_ne _ _ (by omega)]; exact e3
          have f4 : up1 (up1 S2 (b + 300 + t) (-1)) (b + 240 + t) (-1) (b + 8 * id + 4) = hdI rest := by rw [up1_ne _ _ (by omega), up1_ne _ _ (by omega)]; exact e4
          have f5 : rest ≠ [] → up1 (up1 S2 (b + 300 + t) (-1)) (b + 240 + t) (-1) (b + 8 * id + 5) = laI rest := fun y => by rw [up1_ne _ _ (by omega), up1_ne _ _ (by omega)]; exact e5 y
          generalize up1 (up1 S2 (b + 300 + t) (-1)) (b + 240 + t) (-1) = S3 at f1 f2 f3 f4 f5 ⊢
          have hrt : ∀ u ∈ rest, u ≠ t := fun u hu z => n1 (List.mem_append_left _ (z ▸ hu))
          have nd : RN ky S3 b (id, rk, tg, ld, rest) (tr_no l) (tr_no rr) := by
            refine ⟨c0, (f1 _ (by omega) (by omega) (by omega) (by omega) (by omega)).trans c1, (f1 _ (by omega) (by omega) (by omega) (by omega) (by omega)).trans c2, fun _ => (f1 _ (by omega) (by omega) (by omega) (by omega) (by omega)).trans c3, f3, f4, f5, (f1 _ (by omega) (by omega) (by omega) (by omega) (by omega)).trans c7, (f1 _ (by omega) (by omega) (by omega) (by omega) (by omega)).trans c8, LC.congr (fun u hu => f1 _ (by omega) (by omega) (by omega) (by have := hrt u hu; omega) (by omega)) c9.2, fun u hu => c10 u (List.mem_cons_of_mem _ hu)⟩
          have sub : ∀ {X : Tr}, NR ky S b X → id ∉ tr_ids X → t ∉ tr_its X → NR ky S3 b X := by
            intro X
            induction X with
            | leaf => intro _ _ _; trivial
            | inner z k u l r ihl ihr =>
              rintro ⟨y1, y2, y3⟩ m1 m2
              have hne : k.1 ≠ id := fun q => m1 (q ▸ List.mem_cons_self)
              have y0 := y1.1
              exact ⟨y1.congr (fun w hw => f1 _ (by omega) (by omega) (by omega) (by omega) (by omega)) (fun v hv => f1 _ (by omega) (by omega) (by omega) (by
                have : v ≠ t := fun q => m2 (List.mem_append_left _ (q ▸ hv))
                omega) (by omega)), ihl y2 (fun q => m1 (List.mem_cons_of_mem _ (List.mem_append_left _ q))) (fun q => m2 (List.mem_append_right _ (List.mem_append_left _ q))), ihr y3 (fun q => m1 (List.mem_cons_of_mem _ (List.mem_append_right _ q))) (fun q => m2 (List.mem_append_right _ (List.mem_append_right _ q)))⟩
          have ncl : NR ky S3 b l := sub cl (fun q => i1 (List.mem_append_left _ q)) (fun q => n1 (List.mem_append_right _ (List.mem_append_left _ q)))
          have ncr : NR ky S3 b rr := sub cr (fun q => i1 (List.mem_append_right _ q)) (fun q => n1 (List.mem_append_right _ (List.mem_append_right _ q)))
          have hidlt : ∀ i ∈ id :: (tr_ids l ++ tr_ids rr), i < 24 := fun i hi => by
            rcases List.mem_cons.mp hi with q | q
            · rw [q]; exact c0
            · rcases List.mem_append.mp q with q | q
              · exact cl.lt24 i q
              · exact cr.lt24 i q
          have hitlt : ∀ i ∈ rest ++ (tr_its l ++ tr_its rr), i < 20 := fun i hi => hitl i (List.mem_cons_of_mem _ hi)
          have mm : ∀ (T' : Tr) (S4 : Nat → Int32), (∀ j ∈ tr_ids T', j ∈ id :: (tr_ids l ++ tr_ids rr)) → NR ky S4 b T' → RF S3 S4 b (id :: (tr_ids l ++ tr_ids rr)) (rest ++ (tr_its l ++ tr_its rr)) → (∀ j ∈ id :: (tr_ids l ++ tr_ids rr), j ∉ tr_ids T' → S4 (b + 8 * j) = -1) → tr_no T' = nI id → RA ky S4 b (up1 A.1 (24 * a + r) T', up1 A.2.1 t (-1), A.2.2) ∧ RZ S S4 b := by
            intro T' S4 y1 y3 y4 y5 y6
            refine ⟨⟨rep S4 T' y3 (fun a' r' ha' hr' => ?_) (fun n j hn hj hno => ?_) (fun v hv hno => ?_) y1 y5, fun v hv => ?_⟩, fun i hi => ?_⟩
            · rw [y4.other hidlt hitlt (Or.inr (Or.inl ⟨by omega, by omega⟩)), f1 _ (by omega) (by omega) (by omega) (by omega) (by omega)]
              by_cases y : 24 * a' + r' = 24 * a + r
              · rw [y, up1_at, y6, show b + 192 + 16 * a' + r' = b + 192 + 16 * a + r by omega]; exact c20
              · rw [up1_ne _ _ y]; exact hroot a' r' ha' hr'
            · have hno' : n ∉ id :: (tr_ids l ++ tr_ids rr) := hno
              have hne : n ≠ id := fun y => hno' (y ▸ List.mem_cons_self)
              rw [y4.node hno' hn hj]
              exact f1 _ (by omega) (by omega) (by omega) (by omega) (by omega)
            · have hno' : v ∉ t :: (rest ++ (tr_its l ++ tr_its rr)) := hno
              have hne : v ≠ t := fun y => hno' (y ▸ List.mem_cons_self)
              rw [y4.item (fun y => hno' (List.mem_cons_of_mem _ y)) hidlt]
              exact f1 _ (by omega) (by omega) (by omega) (by omega) (by omega)
            · obtain ⟨z1, z2, z3⟩ := hCi v hv
              rw [y4.other hidlt hitlt (show b + 240 + v < b ∨ (b + 192 ≤ b + 240 + v ∧ b + 240 + v < b + 300) ∨ _ from Or.inr (Or.inl ⟨by omega, by omega⟩)), y4.other hidlt hitlt (show b + 260 + v < b ∨ (b + 192 ≤ b + 260 + v ∧ b + 260 + v < b + 300) ∨ _ from Or.inr (Or.inl ⟨by omega, by omega⟩)), y4.other hidlt hitlt (show b + 280 + v < b ∨ (b + 192 ≤ b + 280 + v ∧ b + 280 + v < b + 300) ∨ _ from Or.inr (Or.inl ⟨by omega, by omega⟩)), f1 (b + 260 + v) (by omega) (by omega) (by omega) (by omega) (by omega), f1 (b + 280 + v) (by omega) (by omega) (by omega) (by omega) (by omega)]
              refine ⟨?_, z2, z3⟩
              by_cases y : v = t
              · rw [y, f2]; exact (up1_at _ _ _).symm
              · rw [f1 _ (by omega) (by omega) (by omega) (by omega) (by omega), z1]; exact (up1_ne _ _ y).symm
            · rw [y4.other hidlt hitlt (by omega)]
              exact f1 _ (by omega) (by omega) (by omega) (by omega) (by omega)
          refine r_isLeaf (d := d + 17) (ky := ky) (l := l) (r := rr) hM (by omega) ncl ncr nd.2.2.2.2.2.2.2.1 nd.2.2.2.2.2.2.2.2.1 ?_
          by_cases g2 : isL l = true ∧ isL rr = true
          · have z1 : ¬ (if isL l = true ∧ isL rr = true then (1 : Int32) else 0) = 0 := by rw [if_pos g2]; decide
            rw [if_neg z1]
            refine ⟨hM.1, r_nodeOf (d := d + 18) (w := 3) hM (by omega) ?_⟩
            rw [f3]
            by_cases g3 : rest = []
            · have z2 : nI rest.length = 0 := by rw [g3]; rfl
              rw [if_pos z2]
              rw [if_neg (by rw [z2]; exact half_pos q3), if_pos g2, if_pos g3] at k1
              refine ⟨hM.1, r_nodeOf (d := d + 18) (w := 0) hM (by omega) ?_⟩
              rw [show S3 (b + 8 * id + 0) = nI rk from nd.2.1, hxr]
              refine ⟨hM.1, r_roots (d := d + 18) hM (by omega) ⟨hM.1, r_frees (d := d + 17) hM (by omega) ⟨_, rfl, k1 _ ⟨rep _ .leaf trivial (fun a' r' ha' hr' => ?_) (fun n j hn hj hno => ?_) (fun v hv hno => ?_) (fun _ q => by cases q) (fun j hj _ => ?_), fun v hv => ?_⟩ (fun i hi => ?_)⟩⟩⟩
              · have l8 : ∀ i, ¬ (b + 8 * id ≤ i ∧ i < b + 8 * id + 8) → fr8 (up1 S3 (b + 192 + 16 * a + r) (-1)) b id 8 i = up1 S3 (b + 192 + 16 * a + r) (-1) i := fun i hi => if_neg hi
                rw [l8 _ (by omega)]
                by_cases y : 24 * a' + r' = 24 * a + r
                · rw [y, up1_at, show b + 192 + 16 * a' + r' = b + 192 + 16 * a + r by omega, up1_at]; rfl
                · rw [up1_ne (fun y => tr_no (A.1 y)) _ y, up1_ne _ _ (by omega), f1 _ (by omega) (by omega) (by omega) (by omega) (by omega)]; exact hroot a' r' ha' hr'
              · have hno' : n ∉ id :: (tr_ids l ++ tr_ids rr) := hno
                have hne : n ≠ id := fun y => hno' (y ▸ List.mem_cons_self)
                have l8 : ∀ i, ¬ (b + 8 * id ≤ i ∧ i < b + 8 * id + 8) → fr8 (up1 S3 (b + 192 + 16 * a + r) (-1)) b id 8 i = up1 S3 (b + 192 + 16 * a + r) (-1) i := fun i hi => if_neg hi
                rw [l8 _ (by omega), up1_ne _ _ (by omega)]
                exact f1 _ (by omega) (by omega) (by omega) (by omega) (by omega)
              · have hno' : v ∉ t :: (rest ++ (tr_its l ++ tr_its rr)) := hno
                have hne : v ≠ t := fun y => hno' (y ▸ List.mem_cons_self)
                have l8 : ∀ i, ¬ (b + 8 * id ≤ i ∧ i < b + 8 * id + 8) → fr8 (up1 S3 (b + 192 + 16 * a + r) (-1)) b id 8 i = up1 S3 (b + 192 + 16 * a + r) (-1) i := fun i hi => if_neg hi
                rw [l8 _ (by omega), up1_ne _ _ (by omega)]
                exact f1 _ (by omega) (by omega) (by omega) (by omega) (by omega)
              · have hj' : j ∈ id :: (tr_ids l ++ tr_ids rr) := hj
                rw [(isL_ids g2.1).1, (isL_ids g2.2).1] at hj'
                have : j = id := by simpa using hj'
                rw [this]
                exact if_pos ⟨Nat.le_refl _, by omega⟩
              · obtain ⟨z1, z2, z3⟩ := hCi v hv
                have l8 : ∀ i, ¬ (b + 8 * id ≤ i ∧ i < b + 8 * id + 8) → fr8 (up1 S3 (b + 192 + 16 * a + r) (-1)) b id 8 i = up1 S3 (b + 192 + 16 * a + r) (-1) i := fun i hi => if_neg hi
                rw [l8 _ (by omega), l8 _ (by omega), l8 _ (by omega), up1_ne _ _ (by omega), up1_ne _ _ (by omega), up1_ne _ _ (by omega), f1 (b + 260 + v) (by omega) (by omega) (by omega) (by omega) (by omega), f1 (b + 280 + v) (by omega) (by omega) (by omega) (by omega) (by omega)]
                refine ⟨?_, z2, z3⟩
                by_cases y : v = t
                · rw [y, f2]; exact (up1_at _ _ _).symm
                · rw [f1 _ (by omega) (by omega) (by omega) (by omega) (by omega), z1]; exact (up1_ne _ _ y).symm
              · have l8 : ∀ i, ¬ (b + 8 * id ≤ i ∧ i < b + 8 * id + 8) → fr8 (up1 S3 (b + 192 + 16 * a + r) (-1)) b id 8 i = up1 S3 (b + 192 + 16 * a + r) (-1) i := fun i hi => if_neg hi
                rw [l8 _ (by omega), up1_ne _ _ (by omega)]
                exact f1 _ (by omega) (by omega) (by omega) (by omega) (by omega)
            · rw [if_neg (nI_neq0 (fun y => g3 (List.length_eq_zero_iff.mp y)) (by omega))]
              obtain ⟨u1, u2⟩ := mm (tn (id, rk, tg, ld, rest) l rr) S3 (fun _ q => q) ⟨nd, ncl, ncr⟩ RF.rfl' (fun j hj hj2 => absurd hj hj2) rfl
              rw [show (if tg / 2 < nI rest.length then tn (id, rk, tg, ld, rest) l rr else if isL l = true ∧ isL rr = true then (if rest = [] then .leaf else tn (id, rk, tg, ld, rest) l rr) else siftT (rLt ky) (id, rk, tg, ld, rest) l rr) = tn (id, rk, tg, ld, rest) l rr by rw [if_pos g2, if_neg g3]; exact ite_self _] at k1
              exact ⟨_, rfl, k1 S3 u1 u2⟩
          · have z1 : (if isL l = true ∧ isL rr = true then (1 : Int32) else 0) = 0 := if_neg g2
            rw [if_pos z1]
            refine ⟨hM.1, r_nodeOf (d := d + 18) (w := 3) hM (by omega) ⟨hM.1, r_nodeOf (d := d + 18) (w := 1) hM (by omega) ?_⟩⟩
            rw [f3, show S3 (b + 8 * id + 1) = tg from nd.2.2.1]
            by_cases g1 : tg / 2 < nI rest.length
            · rw [if_pos g1]
              rw [if_pos g1] at k1
              obtain ⟨u1, u2⟩ := mm (tn (id, rk, tg, ld, rest) l rr) S3 (fun _ q => q) ⟨nd, ncl, ncr⟩ RF.rfl' (fun j hj hj2 => absurd hj hj2) rfl
              exact ⟨_, rfl, k1 S3 u1 u2⟩
            · rw [if_neg g1]
              rw [if_neg g1, if_neg g2] at k1
              have hlen2 : (tr_its (tn (id, rk, tg, ld, rest) l rr)).length ≤ 20 := by
                have : (t :: (rest ++ (tr_its l ++ tr_its rr))).length ≤ 20 := hlen
                rw [List.length_cons] at this
                show (rest ++ (tr_its l ++ tr_its rr)).length ≤ 20
                omega
              obtain ⟨k', l', r', m, e1', e2', e3'⟩ := siftT_ok (lt := rLt ky) (k := (id, rk, tg, ld, rest)) wl wr' x2 hrk q3 hid hlen2
              obtain ⟨g1', g2', g3', g4', -⟩ := siftF_spec 400 _ _ _ _ _ _ _ e1' wl wr' hid q3 x2 (Or.inr q2)
              rw [e2'] at k1
              refine ⟨hM.1, r_siftT (D := d + 16) (k := (id, rk, tg, ld, rest)) hM hb e1' nd ncl ncr wl wr' q3 x2 hid n2 hlen2 (by show rk ≤ d + 16; omega) (fun S4 v1 v2 v3 => ?_)⟩
              obtain ⟨u1, u2⟩ := mm (tn k' l' r') S4 g2' v1 v2 v3 (by show nI k'.1 = _; rw [g1'.1])
              exact ⟨_, rfl, k1 S4 u1 u2⟩
        by_cases g3 : rest = []
        · have z2 : nI rest.length = 0 := by rw [g3]; rfl
          rw [if_pos z2]
          refine ⟨hM.1, r_lays (d := d + 18) (w := 5) hM (by omega) (after _ (fun i hi => ?_) ?_ ?_ (fun y => absurd g3 y))⟩
          · rw [up1_ne _ _ hi.2.2, up1_ne _ _ hi.1, up1_ne _ _ hi.2.1]
          · rw [up1_ne _ _ (by omega), up1_at]
          · rw [up1_ne _ _ (by omega), up1_ne _ _ (by omega), up1_at]
        · rw [if_neg (nI_neq0 (fun y => g3 (List.length_eq_zero_iff.mp y)) (by omega))]
          refine after _ (fun i hi => ?_) ?_ ?_ (fun y => ?_)
          · rw [up1_ne _ _ hi.1, up1_ne _ _ hi.2.1]
          · rw [up1_at]
          · rw [up1_ne _ _ (by omega), up1_at]
          · rw [up1_ne _ _ (by omega), up1_ne _ _ (by omega), c6]; exact laI_tail y
end RTA
