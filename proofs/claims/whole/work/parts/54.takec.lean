/-! TAKE, as the class does it -/
section TAK
variable {G : pm_G} {d : Nat} {h : pm_H} {f : Nat}
theorem s_leastRoot {Q : Int32 → pm_H → Prop} {hs : Hs} {a : Nat} (hF : Fa h f) (hP : Pk h) (ha : a < 3) (hn : ∀ q, q < 72 → NC (gi h) f (-1) (hs q) ∧ gi h (f + 20) q = tr_no (hs q)) (hw : ∀ q, q < 72 → TW (hs q))
    (k : Q (tr_no (trO hs a (lrF (kLt (gf h 16)) hs a 24))) h) : ci G (d + 2) m_X0_leastRoot [.ref f, .int (nI a)] h Q := by
  refine ci_wp rfl (Nat.le_of_ble_eq_true rfl) rfl (x_X0_leastRoot ?_)
  refine up_to (P := fun n => Wp G (m_X0_leastRoot, d + 1 + 1, 0, 0, fun v h1 => ∃ r, v = some (.int r) ∧ Q r h1) (0, 0) 4 [.ref f, .int (nI a), .int (tr_no (trO hs a (lrF (kLt (gf h 16)) hs a n))), .int (nI n), .null] [] h) 24 (fun n hn24 ih => ?_) ?_
  · refine x_X0_leastRoot_4 ?_
    rw [if_neg (li_no 24 24 rfl hn24 (by decide))]
    have hq : 24 * a + n < 72 := by omega
    refine ⟨hF.1, s_slot (d := d) (by omega) hn24 (f_at10 hF ?_)⟩
    obtain ⟨c1, c2⟩ := hn _ hq
    rw [rd_in hq (by decide), c2]
    have hm1 := tr_no_m1 c1
    by_cases hX : isL (hs (24 * a + n)) = true
    · rw [if_pos (hm1.mpr hX), nI_1]
      rw [lrF, if_pos hX] at ih
      exact ih
    · have hX' : isL (hs (24 * a + n)) = false := by simpa using hX
      rw [if_neg (fun z => hX (hm1.mp z)), nI_1]
      rw [lrF, if_neg hX] at ih
      cases hb : lrF (kLt (gf h 16)) hs a n with
      | none =>
        rw [hb] at ih
        rw [if_pos (show tr_no (trO hs a none) = -1 from rfl)]
        exact ih
      | some b =>
        rw [hb] at ih
        obtain ⟨b1, b2⟩ := lrF_ok hb
        have hqb : 24 * a + b < 72 := by omega
        obtain ⟨d1, d2⟩ := hn _ hqb
        rw [if_neg (fun z => by
          have z : tr_no (hs (24 * a + b)) = -1 := z
          rw [(tr_no_m1 d1).mp z] at b2
          cases b2)]
        obtain ⟨l1, l2⟩ := c1.lead (hw _ hq) hX'
        obtain ⟨m1, m2⟩ := d1.lead (hw _ hqb) b2
        refine ⟨hF.1, f_at3 hF ?_⟩
        rw [l1, hF.2.1]
        refine ⟨hP.1, s_keyOf hP ⟨hF.1, f_at3 hF ?_⟩⟩
        rw [show tr_no (trO hs a (some b)) = tr_no (hs (24 * a + b)) from rfl, m1, hF.2.1]
        refine ⟨hP.1, s_keyOf hP ?_⟩
        rw [kyf_in l2, kyf_in m2]
        by_cases hc : FP.fcmp (gf h 16 (tr_ld (hs (24 * a + n)))) (gf h 16 (tr_ld (hs (24 * a + b)))) = some .lt
        · rw [if_neg (fun z => cmpG.mp z hc)]
          have ih : Wp G (m_X0_leastRoot, d + 1 + 1, 0, 0, fun v h1 => ∃ r, v = some (.int r) ∧ Q r h1) (0, 0) 4 [.ref f, .int (nI a), .int (tr_no (trO hs a (if kLt (gf h 16) (tr_ld (hs (24 * a + n))) (tr_ld (hs (24 * a + b))) = true then some n else some b))), .int (nI (n + 1)), .null] [] h := ih
          rw [if_pos (by unfold kLt; exact decide_eq_true hc)] at ih
          exact ih
        · rw [if_pos (cmpG.mpr hc)]
          have ih : Wp G (m_X0_leastRoot, d + 1 + 1, 0, 0, fun v h1 => ∃ r, v = some (.int r) ∧ Q r h1) (0, 0) 4 [.ref f, .int (nI a), .int (tr_no (trO hs a (if kLt (gf h 16) (tr_ld (hs (24 * a + n))) (tr_ld (hs (24 * a + b))) = true then some n else some b))), .int (nI (n + 1)), .null] [] h := ih
          rw [if_neg (by unfold kLt; rw [decide_eq_false hc]; exact Bool.noConfusion)] at ih
          exact ih
  · refine x_X0_leastRoot_4 ?_
    rw [if_pos (li_yes 24 24 rfl)]
    exact ⟨_, rfl, k⟩
theorem laI_tail {t : Nat} {l : List Nat} (h : l ≠ []) : laI (t :: l) = laI l := by
  cases l with
  | nil => exact absurd rfl h
  | cons x y => rfl
theorem s_takeFrom {Q : Int32 → pm_H → Prop} {a w : Nat} {A : AF} (hF : Fa h f) (hP : Pk h) (ha : a < 3) (hw : w ≤ 1000) (hA : okA A w) (hC : CF (gi h) f A)
    (k0 : takeA (kLt (gf h 16)) A a = none → Q (-1) h) (k1 : ∀ t A', takeA (kLt (gf h 16)) A a = some (t, A') → ∀ M', CF M' f A' → FX (gi h) M' f → Q (nI t) (sm h M')) : ci G (d + 4) m_X0_takeFrom [.ref f, .int (nI a)] h Q := by
  refine ci_wp rfl (Nat.le_of_ble_eq_true rfl) rfl (x_X0_takeFrom ⟨hF.1, s_leastRoot (d := d + 1) (hs := A.1) hF hP ha hC.1.1 (fun q hq => (hA.1.2.2.2.2.1 q hq).1) ?_⟩)
  unfold takeA at k0 k1
  cases hr : lrF (kLt (gf h 16)) A.1 a 24 with
  | none =>
    rw [hr] at k0
    rw [if_pos (show tr_no (trO A.1 a none) = -1 from rfl)]
    exact ⟨_, rfl, k0 rfl⟩
  | some r =>
    rw [hr] at k1
    have k1 := k1 _ _ rfl
    obtain ⟨hr1, hr2⟩ := lrF_ok hr
    have hq : 24 * a + r < 72 := by omega
    have hwf := hA.1
    obtain ⟨a1, a2, a3, a4, a5, -, -, a8⟩ := hA.1
    obtain ⟨x1, x2, x3⟩ := a5 _ hq
    have few := hA.1.few.2
    have pi := aids_up (hs := A.1) (q := 24 * a + r) .leaf hq
    have pt := aits_up (hs := A.1) (q := 24 * a + r) .leaf hq
    rw [show tr_ids .leaf = [] from rfl, List.nil_append] at pi
    rw [show tr_its .leaf = [] from rfl, List.nil_append] at pt
    rw [show tr_ids .leaf = [] from rfl, List.append_nil] at a1
    rw [show tr_its .leaf = [] from rfl, List.append_nil] at a2 a3 few
    have hid := (List.nodup_append.mp (pi.nodup_iff.mpr a1)).2.1
    have hit := (List.nodup_append.mp (pt.nodup_iff.mpr a2)).2.1
    have hlen : (tr_its (A.1 (24 * a + r))).length ≤ 20 := by
      have := pt.length_eq
      rw [List.length_append] at this
      omega
    have hrk : tr_rk (A.1 (24 * a + r)) ≤ 16 := by
      have ps := wsum_up (hs := A.1) (q := 24 * a + r) .leaf hq
      have e2 : ∀ x, trw Std.DTreeMap.Internal.Impl.leaf x = 0 := fun _ => rfl
      rw [trw_pos hr2, e2, show (24 * a + r) % 24 = r by omega] at ps
      rw [e2] at a8
      have := pow_9 (r := r) (by omega)
      rw [x3 hr2]
      omega
    have x3 := x3 hr2
    obtain ⟨cN, c20⟩ := hC.1.1 _ hq
    have rep := fun (M' : Nat → Nat → Int32) (T' : Tr) => rc_repl (M' := M') (T' := T') hA.1 hC.1 hq
    have hCi := hC.2
    have tok := takT_ok (lt := kLt (gf h 16)) x1 x2 hr2 hrk hid hit hlen
    rw [show trO A.1 a (some r) = A.1 (24 * a + r) from rfl]
    generalize hT : A.1 (24 * a + r) = T at *
    cases T with
    | leaf => cases hr2
    | inner z k u l rr =>
      obtain ⟨⟨q1, q2, q3⟩, wl, wr'⟩ := x1
      obtain ⟨id, rk, tg, ld, ls⟩ := k
      cases ls with
      | nil => exact absurd rfl q1
      | cons t rest =>
        have eT : takT (kLt (gf h 16)) (.inner z (id, rk, tg, ld, t :: rest) u l rr) = (if tg / 2 < nI rest.length then tn (id, rk, tg, ld, rest) l rr else if isL l = true ∧ isL rr = true then (if rest = [] then .leaf else tn (id, rk, tg, ld, rest) l rr) else siftT (kLt (gf h 16)) (id, rk, tg, ld, rest) l rr) := rfl
        rw [show takI (.inner z (id, rk, tg, ld, t :: rest) u l rr) = t from rfl] at k1 tok
        have hit' : (t :: (rest ++ (tr_its l ++ tr_its rr))).Nodup := hit
        obtain ⟨n1, n2⟩ := List.nodup_cons.mp hit'
        obtain ⟨i1, i2⟩ := List.nodup_cons.mp (show (id :: (tr_ids l ++ tr_ids rr)).Nodup from hid)
        obtain ⟨⟨c0, c1, c2, c3, c4, c5, c6, c7, c8, c9, c10, c11⟩, cl, cr⟩ := cN
        simp only [n_ls, n_tg, n_rk, n_ld, ne_eq, reduceCtorEq, not_false_eq_true, forall_const] at c1 c2 c3 c4 c5 c6 c7 c8
        have ht : t < 20 := (c8 t List.mem_cons_self).2
        have ec : ¬ nI id = -1 := nI_nm1 (by omega)
        rw [show tr_no (.inner z (id, rk, tg, ld, t :: rest) u l rr) = nI id from rfl, if_neg ec]
        refine ⟨hF.1, f_at4 hF ?_⟩
        rw [rd_in c0 (by decide), c4, show hdI (t :: rest) = nI t from rfl]
        refine ⟨hF.1, f_at11 hF ?_⟩
        rw [rd_in ht (by decide), c7.1]
        refine f_set4 hF ⟨hF.1, f_at6 (f := f) hF ?_⟩
        rw [rd_in c0 (by decide), wr_in c0 (by decide)]
        have e6 : gi (sm h (pm_u (gi h) (f + 8) id (hdI rest))) (f + 12) id = nI (rest.length + 1) := by
          show pm_u (gi h) (f + 8) id (hdI rest) (f + 12) id = _
          rw [pm_u_ne _ _ _ (by omega)]
          exact c6
        rw [e6, show nI (rest.length + 1) - 1 = nI rest.length by rw [← nI_1]; simp [Int32.add_sub_cancel]]
        refine f_set6 (f := f) hF ⟨hF.1, f_set11 (f := f) hF ⟨hF.1, f_set12 (f := f) hF ⟨hF.1, f_set13 (f := f) hF ?_⟩⟩⟩
        dsimp only [gi, sm]
        simp only [wr_in ht (show (20 : Nat) < 2 ^ 31 by decide), wr_in c0 (show (24 : Nat) < 2 ^ 31 by decide)]
        have fr : Fr (gi h) (pm_u (pm_u (pm_u (pm_u h.2.1 (f + 8) id (hdI rest)) (f + 12) id (nI rest.length)) (f + 22) t (-1)) (f + 24) t (-1)) f [id] [t] :=
          (((Fr.u (q := 4) (by decide) (by simp)).trans (Fr.u (q := 6) (by decide) (by simp))).trans (Fr.ui (Or.inl rfl) (by simp))).trans (Fr.ui (Or.inr rfl) (by simp))
        have nn : NN (pm_u (pm_u (pm_u (pm_u h.2.1 (f + 8) id (hdI rest)) (f + 12) id (nI rest.length)) (f + 22) t (-1)) (f + 24) t (-1)) f (-1) (id, rk, tg, ld, rest) (tr_no l) (tr_no rr) := by
          have hrt : ∀ u ∈ rest, u ≠ t := fun u hu z => n1 (List.mem_append_left _ (z ▸ hu))
          refine ⟨c0, ?_, ?_, fun _ => ?_, ?_, fun q => ?_, ?_, LC.congr (fun u hu => ?_) c7.2, fun u hu => ⟨?_, (c8 u (List.mem_cons_of_mem _ hu)).2⟩, ?_, ?_, ?_⟩
          · simp [pm_u]; exact c1
          · simp [pm_u]; exact c2
          · simp [pm_u]; exact c3
          · simp [pm_u]
          · simp [pm_u]; rw [show h.2.1 (f + 10) id = _ from c5]; exact laI_tail q
          · simp [pm_u]
          · simp [pm_u, hrt u hu]
          · simp [pm_u, hrt u hu]; exact (c8 u (List.mem_cons_of_mem _ hu)).1
          · simp [pm_u]; exact c9
          · simp [pm_u]; exact c10
          · simp [pm_u]; exact c11
        have hnd24 : (pm_u (pm_u (pm_u (pm_u h.2.1 (f + 8) id (hdI rest)) (f + 12) id (nI rest.length)) (f + 22) t (-1)) (f + 24) t (-1)) (f + 24) t = -1 := by simp [pm_u]
        generalize (pm_u (pm_u (pm_u (pm_u h.2.1 (f + 8) id (hdI rest)) (f + 12) id (nI rest.length)) (f + 22) t (-1)) (f + 24) t (-1)) = M1 at fr nn hnd24 ⊢
        have row13 : ∀ u, u < 20 → pm_u M1 (f + 26) t (-1) (f + 26) u = up1 A.2.1 t (-1) u ∧ pm_u M1 (f + 26) t (-1) (f + 28) u = A.2.2.1 u ∧ pm_u M1 (f + 26) t (-1) (f + 30) u = A.2.2.2 u := fun u hu => by
          obtain ⟨z1, z2, z3⟩ := hCi u hu
          have e : ∀ b, b = 13 ∨ b = 14 ∨ b = 15 → M1 (f + 2 * b) = gi h (f + 2 * b) := fun b hb => fr.other (fun q hq => by omega) (by omega) (by omega)
          have e13 := congrFun (e 13 (Or.inl rfl)) u
          have e14 := congrFun (e 14 (Or.inr (Or.inl rfl))) u
          have e15 := congrFun (e 15 (Or.inr (Or.inr rfl))) u
          by_cases q : u = t
          · subst q; simp [pm_u, up1]; exact ⟨e14.trans z2, e15.trans z3⟩
          · simp [pm_u, up1, q]; exact ⟨e13.trans z1, e14.trans z2, e15.trans z3⟩
        have hrow : ∀ q', q' ≠ 13 → pm_u M1 (f + 26) t (-1) (f + 2 * q') = M1 (f + 2 * q') := fun q' hq' => pm_u_ne _ _ _ (by omega)
        have fx : FX (gi h) (pm_u M1 (f + 26) t (-1)) f := fr.fj.fx.trans (FX.u (q := 13) (by decide))
        have nn2 : NC (pm_u M1 (f + 26) t (-1)) f (-1) (tn (id, rk, tg, ld, rest) l rr) := by
          have cl1 : NC M1 f (nI id) l := fr.nc cl (fun j hj q => i1 (List.mem_append_left _ (by rw [List.mem_singleton] at q; exact q ▸ hj))) (fun j hj q => n1 (List.mem_append_right _ (List.mem_append_left _ (by rw [List.mem_singleton] at q; exact q ▸ hj))))
          have cr1 : NC M1 f (nI id) rr := fr.nc cr (fun j hj q => i1 (List.mem_append_right _ (by rw [List.mem_singleton] at q; exact q ▸ hj))) (fun j hj q => n1 (List.mem_append_right _ (List.mem_append_right _ (by rw [List.mem_singleton] at q; exact q ▸ hj))))
          have : NC M1 f (-1) (tn (id, rk, tg, ld, rest) l rr) := ⟨nn, cl1, cr1⟩
          refine this.congr ⟨fun i _ => ⟨?_, ?_, ?_, ?_, ?_, ?_, ?_, ?_, ?_⟩, fun t _ => ⟨?_, ?_⟩⟩
          · exact congrFun (hrow 1 (by decide)) i
          · exact congrFun (hrow 2 (by decide)) i
          · exact congrFun (hrow 3 (by decide)) i
          · exact congrFun (hrow 4 (by decide)) i
          · exact congrFun (hrow 5 (by decide)) i
          · exact congrFun (hrow 6 (by decide)) i
          · exact congrFun (hrow 7 (by decide)) i
          · exact congrFun (hrow 8 (by decide)) i
          · exact congrFun (hrow 9 (by decide)) i
          · exact congrFun (hrow 11 (by decide)) t
          · exact congrFun (hrow 12 (by decide)) t
        have r20 : pm_u M1 (f + 26) t (-1) (f + 20) = gi h (f + 20) := (hrow 10 (by decide)).trans (fr.other (fun q hq => by omega) (by omega) (by omega))
        have hnode : ∀ p j, 1 ≤ p ∧ p ≤ 9 → j ≠ id → pm_u M1 (f + 26) t (-1) (f + 2 * p) j = gi h (f + 2 * p) j := fun p j hp hj => by
          rw [hrow p (by omega)]; exact fr.node hp.2 (by simpa using hj)
        have hitem : ∀ p u, p = 11 ∨ p = 12 → u ≠ t → pm_u M1 (f + 26) t (-1) (f + 2 * p) u = gi h (f + 2 * p) u := fun p u hp hu => by
          rw [hrow p (by omega)]; exact fr.item (by omega) (by simpa using hu)
        have h24 : pm_u M1 (f + 26) t (-1) (f + 24) t = -1 := by rw [show pm_u M1 (f + 26) t (-1) (f + 24) = M1 (f + 24) from hrow 12 (by decide)]; exact hnd24
        generalize pm_u M1 (f + 26) t (-1) = M2 at row13 fx nn2 r20 hnode hitem h24 ⊢
        have hF2 : ∀ M, Fa (sm h M) f := fun M => hF
        obtain ⟨nd, ncl, ncr⟩ := nn2
        have m6 : M2 (f + 12) id = nI rest.length := nd.2.2.2.2.2.2.1
        have m4 : M2 (f + 4) id = tg := nd.2.2.1
        have m1 : M2 (f + 2) id = nI rk := nd.2.1
        have mm : ∀ (T' : Tr) (M3 : Nat → Nat → Int32), (∀ j ∈ tr_ids T', j ∈ id :: (tr_ids l ++ tr_ids rr)) → (∀ u, u ∈ tr_its T' ↔ u ∈ rest ++ (tr_its l ++ tr_its rr)) → NC M3 f (-1) T' → Fr M2 M3 f (id :: (tr_ids l ++ tr_ids rr)) (rest ++ (tr_its l ++ tr_its rr)) → (∀ j ∈ id :: (tr_ids l ++ tr_ids rr), j ∉ tr_ids T' → M3 (f + 2) j = -1) → tr_no T' = nI id → CF M3 f (up1 A.1 (24 * a + r) T', up1 A.2.1 t (-1), A.2.2) ∧ FX (gi h) M3 f := by
          intro T' M3 e1 e2 e3 e4 e5 e6
          refine ⟨⟨rep M3 T' e3 (fun x hx => ?_) (fun p j hp hj => ?_) (fun p v hp hv => ?_) e1 (fun v hv => List.mem_cons_of_mem _ ((e2 v).mp hv)) e5 (fun v hv hv2 => ?_), fun v hv => ?_⟩, fx.trans e4.fj.fx⟩
          · rw [e4.other (fun q hq => by omega) (by omega) (by omega), r20]
            by_cases y : x = 24 * a + r
            · rw [y, up1_at, e6]; exact c20
            · rw [up1_ne _ _ y]; exact (hC.1.1 x hx).2
          · have hj' : j ∉ id :: (tr_ids l ++ tr_ids rr) := hj
            rw [e4.node hp.2 hj']
            exact hnode p j hp fun y => hj' (y ▸ List.mem_cons_self)
          · have hv' : v ∉ t :: (rest ++ (tr_its l ++ tr_its rr)) := hv
            rw [e4.item (by omega) (fun y => hv' (List.mem_cons_of_mem _ y))]
            exact hitem p v hp fun y => hv' (y ▸ List.mem_cons_self)
          · rcases List.mem_cons.mp (show v ∈ t :: (rest ++ (tr_its l ++ tr_its rr)) from hv) with y | y
            · rw [y, e4.item (Or.inr rfl) n1]; exact h24
            · exact absurd ((e2 v).mpr y) hv2
          · have e : ∀ b, b = 13 ∨ b = 14 ∨ b = 15 → M3 (f + 2 * b) = M2 (f + 2 * b) := fun b hb => e4.other (fun q hq => by omega) (by omega) (by omega)
            show M3 (f + 2 * 13) v = _ ∧ M3 (f + 2 * 14) v = _ ∧ M3 (f + 2 * 15) v = _
            rw [e 13 (Or.inl rfl), e 14 (Or.inr (Or.inl rfl)), e 15 (Or.inr (Or.inr rfl))]
            exact row13 v hv
        rw [eT] at k1
        refine ⟨hF.1, f_at6 (hF2 M2) ?_⟩
        rw [rd_in c0 (by decide), show gi (sm h M2) (f + 12) id = _ from m6]
        refine ⟨hF.1, f_at2 (hF2 M2) ?_⟩
        rw [rd_in c0 (by decide), show gi (sm h M2) (f + 4) id = _ from m4]
        by_cases g1 : tg / 2 < nI rest.length
        · rw [if_pos g1]
          rw [if_pos g1] at k1
          obtain ⟨u1, u2⟩ := mm (tn (id, rk, tg, ld, rest) l rr) M2 (fun _ q => q) (fun _ => Iff.rfl) ⟨nd, ncl, ncr⟩ Fr.rfl' (fun j hj hj2 => absurd hj hj2) rfl
          exact ⟨_, rfl, k1 M2 u1 u2⟩
        · rw [if_neg g1]
          rw [if_neg g1] at k1
          refine ⟨hF.1, s_isLeaf (d := d + 1) (hF2 M2) ?_⟩
          rw [rd_in c0 (by decide), rd_in c0 (by decide), show gi (sm h M2) (f + 14) id = _ from nd.2.2.2.2.2.2.2.2.2.1, show gi (sm h M2) (f + 16) id = _ from nd.2.2.2.2.2.2.2.2.2.2.1]
          have hz : (tr_no l = -1 ∧ tr_no rr = -1) ↔ (isL l = true ∧ isL rr = true) := by rw [tr_no_m1 ncl, tr_no_m1 ncr]
          by_cases g2 : isL l = true ∧ isL rr = true
          · rw [if_pos (hz.mpr g2), if_neg (show ¬ (1 : Int32) = 0 by decide)]
            rw [if_pos g2] at k1
            refine ⟨hF.1, f_at6 (hF2 M2) ?_⟩
            rw [rd_in c0 (by decide), show gi (sm h M2) (f + 12) id = _ from m6]
            by_cases g3 : rest = []
            · rw [if_pos (by rw [g3]; rfl)]
              rw [if_pos g3] at k1
              refine ⟨hF.1, f_at1 (hF2 M2) ?_⟩
              rw [rd_in c0 (by decide), show gi (sm h M2) (f + 2) id = _ from m1]
              have x3' : rk = r := by
                have : rk = (24 * a + r) % 24 := x3
                omega
              rw [x3']
              refine s_slot (d := d + 2) (by omega) hr1 ?_
              refine f_set10 (hF2 M2) ⟨hF.1, f_set1 (f := f) hF ?_⟩
              dsimp only [gi, sm]
              rw [wr_in hq (by decide), wr_in c0 (by decide)]
              have l0 := isL_ids g2.1
              have l1 := isL_ids g2.2
              refine ⟨_, rfl, k1 _ ⟨rep _ .leaf trivial (fun x hx => ?_) (fun p j hp hj => ?_) (fun p v hp hv => ?_) (fun _ q => by cases q) (fun _ q => by cases q) (fun j hj _ => ?_) (fun v hv _ => ?_), fun v hv => ?_⟩ ((fx.trans (FX.u (q := 10) (by decide))).trans (FX.u (q := 1) (by decide)))⟩
              · rw [pm_u_ne _ _ _ (by omega)]
                by_cases y : x = 24 * a + r
                · rw [y, up1_at]; simp [pm_u]; rfl
                · rw [up1_ne _ _ y]; simp [pm_u, y]; rw [r20]; exact (hC.1.1 x hx).2
              · have hj' : j ∉ id :: (tr_ids l ++ tr_ids rr) := hj
                have y : j ≠ id := fun y => hj' (y ▸ List.mem_cons_self)
                by_cases y1 : p = 1
                · subst y1; simp [pm_u, y]; exact hnode 1 j hp y
                · rw [pm_u_ne _ _ _ (by omega), pm_u_ne _ _ _ (by omega)]; exact hnode p j hp y
              · rw [pm_u_ne _ _ _ (by omega), pm_u_ne _ _ _ (by omega)]
                have hv' : v ∉ t :: (rest ++ (tr_its l ++ tr_its rr)) := hv
                exact hitem p v hp fun y => hv' (y ▸ List.mem_cons_self)
              · have hj' : j ∈ id :: (tr_ids l ++ tr_ids rr) := hj
                rw [l0.1, l1.1] at hj'
                have : j = id := by simpa using hj'
                subst this
                simp [pm_u]
              · have hv' : v ∈ t :: (rest ++ (tr_its l ++ tr_its rr)) := hv
                rw [l0.2, l1.2, g3] at hv'
                have : v = t := by simpa using hv'
                subst this
                rw [pm_u_ne _ _ _ (by omega), pm_u_ne _ _ _ (by omega)]
                exact h24
              · rw [pm_u_ne _ _ _ (by omega), pm_u_ne _ _ _ (by omega), pm_u_ne _ _ _ (by omega), pm_u_ne _ _ _ (by omega), pm_u_ne _ _ _ (by omega), pm_u_ne _ _ _ (by omega)]
                exact row13 v hv
            · rw [if_neg (fun y => by
                have : nI rest.length = nI 0 := y
                rw [nI_eq (by
                  have : (t :: (rest ++ (tr_its l ++ tr_its rr))).length ≤ 20 := hlen
                  rw [List.length_cons, List.length_append] at this
                  omega) (by decide)] at this
                exact g3 (List.length_eq_zero_iff.mp this))]
              rw [if_neg g3] at k1
              obtain ⟨u1, u2⟩ := mm (tn (id, rk, tg, ld, rest) l rr) M2 (fun _ q => q) (fun _ => Iff.rfl) ⟨nd, ncl, ncr⟩ Fr.rfl' (fun j hj hj2 => absurd hj hj2) rfl
              exact ⟨_, rfl, k1 M2 u1 u2⟩
          · rw [if_neg (fun y => g2 (hz.mp y)), if_pos rfl]
            rw [if_neg g2] at k1
            have hlen2 : (tr_its (tn (id, rk, tg, ld, rest) l rr)).length ≤ 20 := by
              have : (t :: (rest ++ (tr_its l ++ tr_its rr))).length ≤ 20 := hlen
              rw [List.length_cons] at this
              show (rest ++ (tr_its l ++ tr_its rr)).length ≤ 20
              omega
            obtain ⟨k', l', r', m, e1, e2, e3⟩ := siftT_ok (lt := kLt (gf h 16)) (k := (id, rk, tg, ld, rest)) wl wr' x2 hrk q3 hid hlen2
            obtain ⟨g1', g2', g3', g4', -⟩ := siftF_spec 400 _ _ _ _ _ _ _ e1 wl wr' hid q3 x2 (Or.inr q2)
            rw [e2] at k1
            refine ⟨hF.1, s_siftT (h := sm h M2) (k := (id, rk, tg, ld, rest)) (hF2 M2) hP e1 e3 g1'.1 nd ncl ncr wl wr' q3 (Or.inr q2) x2 hid n2 hlen2 (fun M3 v1 v2 v3 => ?_)⟩
            obtain ⟨u1, u2⟩ := mm (tn k' l' r') M3 g2' (fun u => g4'.mem_iff) v1 v2 v3 (by show nI k'.1 = _; rw [g1'.1])
            exact ⟨_, rfl, k1 M3 u1 u2⟩
end TAK
