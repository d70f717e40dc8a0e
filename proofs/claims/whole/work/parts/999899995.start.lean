/-! WHAT STANDS AT THE START: the enum's constants and their row, the classes, the script -/
section PBG
variable {b : Nat} {s : State}
theorem bg_at (hts : ∀ w ∈ lw_tbl, w.before #[Value.ref b] s = true) {k : Nat} {w : Cond} (h : lw_tbl[k]? = some w) : w.before #[Value.ref b] s = true := hts w (List.mem_of_getElem? h)
theorem bg_of (hgv : (Jvm.Cond.and given_1 narrow_1).before #[Value.ref b] s = true) {k : Nat} {w : Cond} (h : bg_fl[k]? = some w) : w.before #[Value.ref b] s = true := flat_of_before _ hgv w (List.mem_of_getElem? h)
theorem bg_gw (hts : ∀ w ∈ lw_tbl, w.before #[Value.ref b] s = true) : ∀ w ∈ gw, w.before #[Value.ref b] s = true := fun w hw => hts w (List.mem_filter.mp hw).1
theorem bg_arr {ty : FieldType} (h : (Cond.arrayClass ty).before #[Value.ref b] s = true) : ∃ cA : ClassId, ArrOfT s cA ty ∧ s.vm.findClass ("[" ++ ty.toString) = some cA := by
  obtain ⟨cA, kA, comp, h1, h2, h3⟩ := Cond.arrayClass_spec h
  exact ⟨cA, fun n z => ⟨fun x y => (by cases y), kA, h2, comp, h3⟩, h1⟩
theorem bg_over {C : String} (h : (Cond.arrayOver (.object C)).before #[Value.ref b] s = true) : ∃ cA : ClassId, ArrOfT s cA (.object C) ∧ va_RA s cA (.object C) := by
  obtain ⟨comp, c, k, h1, h2, h3, h4, h5⟩ := Cond.arrayOver_spec h
  exact ⟨c, fun n z => ⟨fun x y => (by cases y), k, h3, comp, h4⟩, k, comp, h3, h4, h1, h5⟩
theorem bg_tys (hts : ∀ w ∈ lw_tbl, w.before #[Value.ref b] s = true) : ∃ aA : Nat → ClassId, ∀ (k : Nat) (q : ClassId × FieldType), [(aA 0, FieldType.int), (aA 1, .long), (aA 2, .byte), (aA 3, .float), (aA 4, .boolean), (aA 5, .object "RaisedQueue$Forest")][k]? = some q → ArrOfT s q.1 q.2 ∧ va_RA s q.1 q.2 := by
  obtain ⟨c0, u0, v0⟩ := bg_arr (bg_at hts bg_a0)
  obtain ⟨c1, u1, v1⟩ := bg_arr (bg_at hts bg_a1)
  obtain ⟨c2, u2, v2⟩ := bg_arr (bg_at hts bg_a2)
  obtain ⟨c3, u3, v3⟩ := bg_arr (bg_at hts bg_a3)
  obtain ⟨c4, u4, v4⟩ := bg_arr (bg_at hts bg_a4)
  obtain ⟨c5, u5, v5⟩ := bg_over (bg_at hts bg_a5)
  refine ⟨fun k => match k with | 0 => c0 | 1 => c1 | 2 => c2 | 3 => c3 | 4 => c4 | _ => c5, ?_⟩
  intro k q hq
  match k, hq with
  | 0, hq => cases hq; exact ⟨u0, v0⟩
  | 1, hq => cases hq; exact ⟨u1, v1⟩
  | 2, hq => cases hq; exact ⟨u2, v2⟩
  | 3, hq => cases hq; exact ⟨u3, v3⟩
  | 4, hq => cases hq; exact ⟨u4, v4⟩
  | 5, hq => cases hq; exact ⟨u5, v5⟩
  | k + 6, hq => simp at hq
theorem bg_kn (hts : ∀ w ∈ lw_tbl, w.before #[Value.ref b] s = true) (c : Nat) (q : vw_C) (hq : vwCl[c]? = some q) : ∃ (cC : ClassId) (iS : Nat → Nat), u_Kn s q.1 q.2.1 q.2.2 cC iS := by
  have hg := bg_gw hts
  match c, hq with
  | 0, hq => cases hq; exact u_known hg pm_c0.2.1 (bg_at hts bg_i0)
  | 1, hq => cases hq; exact u_known hg pm_c1.2.1 (bg_at hts bg_i1)
  | 2, hq => cases hq; exact u_known hg pm_c2.2.1 (bg_at hts bg_i2)
  | 3, hq => cases hq; exact u_known hg pm_c3.2.1 (bg_at hts bg_i3)
  | 4, hq => cases hq; exact u_known hg pm_c4.2.1 (bg_at hts bg_i4)
  | 5, hq => cases hq; exact u_known hg pm_c5.2.1 (bg_at hts bg_i5)
  | 6, hq => cases hq; exact u_known hg pm_c6.2.1 (bg_at hts bg_i6)
  | 7, hq => cases hq; exact u_known hg pm_c7.2.1 (bg_at hts bg_i7)
  | 8, hq => cases hq; exact u_known hg pm_c8.2.1 (bg_at hts bg_i8)
  | 9, hq => cases hq; exact u_known hg pm_c9.2.1 (bg_at hts bg_i9)
  | 10, hq => cases hq; exact u_known hg pm_c10.2.1 (bg_at hts bg_i10)
  | 11, hq => cases hq; exact u_known hg pm_c11.2.1 (bg_at hts bg_i11)
  | c + 12, hq => simp at hq
theorem bg_D (hts : ∀ w ∈ lw_tbl, w.before #[Value.ref b] s = true) : ∃ D : va_G, ∀ (c : Nat) (q : vw_C), vwCl[c]? = some q → u_Kn s q.1 q.2.1 q.2.2 (D.1 c) (D.2 c) := by
  have h0 : ∀ c : Nat, ∃ z : ClassId × (Nat → Nat), ∀ q : vw_C, vwCl[c]? = some q → u_Kn s q.1 q.2.1 q.2.2 z.1 z.2 := by
    intro c
    cases hq : vwCl[c]? with
    | none => exact ⟨(0, fun _ => 0), fun q h => (by cases h)⟩
    | some q =>
      obtain ⟨cC, iS, h⟩ := bg_kn hts c q hq
      exact ⟨(cC, iS), fun q' h' => (by cases h'; exact h)⟩
  obtain ⟨z, hz⟩ := Classical.axiomOfChoice h0
  exact ⟨(fun c => (z c).1, fun c => (z c).2), hz⟩
theorem bg_hA : ∀ a : Nat, a < s.heap.size → ¬ (fun q : Nat => s.heap.size ≤ q) a := fun _ h z => absurd h (Nat.not_lt.mpr z)
theorem bg_enum (hgv : (Jvm.Cond.and given_1 narrow_1).before #[Value.ref b] s = true) : ∃ ad : Nat → Nat, ∀ i : Nat, i < 22 → (bg_t i).eval #[Value.ref b] s none [] s = some (.ref (ad i)) ∧ va_O "RaisedQueue$Word" (ad i) (fun q : Nat => s.heap.size ≤ q) s s.heap := by
  have h0 : ∀ i : Nat, ∃ t : Nat, i < 22 → (bg_t i).eval #[Value.ref b] s none [] s = some (.ref t) ∧ va_O "RaisedQueue$Word" t (fun q : Nat => s.heap.size ≤ q) s s.heap := by
    intro i
    by_cases hi : i < 22
    · obtain ⟨a, c, cell, k, q1, q2, q3, q4, q5, q6, -⟩ := Cond.exactly_spec (bg_of hgv (bg_ex i hi))
      exact ⟨a, fun _ => ⟨q1, cell, q3, q5, by rw [q6]; exact q2, bg_hA a (Array.getElem?_eq_some_iff.mp q3).1⟩⟩
    · exact ⟨0, fun h => absurd h hi⟩
  exact Classical.axiomOfChoice h0
theorem bg_tab (hgv : (Jvm.Cond.and given_1 narrow_1).before #[Value.ref b] s = true) {ad : Nat → Nat} (had : ∀ i : Nat, i < 22 → (bg_t i).eval #[Value.ref b] s none [] s = some (.ref (ad i))) : ∃ t : Nat, bg_tw.eval #[Value.ref b] s none [] s = some (.ref t) ∧ va_T (.object "RaisedQueue$Word") t 22 (fun j => .ref (ad j)) (fun q : Nat => s.heap.size ≤ q) s s.heap :=
  va_Tof (by decide) (bg_of hgv bg_ar) (va_eqt (bg_of hgv bg_ln)) (fun j hj => va_eqv (bg_of hgv (bg_el j hj)) (had j hj)) bg_hA
theorem bg_str (hts : ∀ w ∈ lw_tbl, w.before #[Value.ref b] s = true) {k j : Nat} {own tx : String} {n : Nat} (h1 : lw_tbl[k]? = some (Cond.stringRef own n tx)) (hgv : (Jvm.Cond.and given_1 narrow_1).before #[Value.ref b] s = true) (h2 : bg_fl[j]? = some (Cond.exactly (.string own n) "java/lang/String")) : ∃ sa, vk_R own n tx sa s := by
  obtain ⟨a, c, cell, k, q1, -⟩ := Cond.exactly_spec (bg_of hgv h2)
  exact ⟨a, vk_R.of (bg_at hts h1) q1⟩
theorem bg_onT {w : Cond} (h : pm_isN w = true) : w.onTables = true := by
  cases w with
  | fieldLinkNest _ _ _ _ _ _ => rfl
  | methodLinkNest _ _ _ _ => rfl
  | _ => cases h
theorem bg_gn (hts : ∀ w ∈ lw_tbl, w.before #[Value.ref b] s = true) : ∀ w ∈ gn, va_Nw w s := fun w hw => va_Nw.of (bg_onT (List.mem_filter.mp hw).2) (hts w (List.mem_filter.mp hw).1)
theorem bg_dif (hgv : (Jvm.Cond.and given_1 narrow_1).before #[Value.ref b] s = true) {ad : Nat → Nat} (had : ∀ i : Nat, i < 22 → (bg_t i).eval #[Value.ref b] s none [] s = some (.ref (ad i))) {i j : Nat} (hi : i < 22) (hj : j < i) : ad i ≠ ad j := by
  rcases bg_ne i hi j hj with z | z
  · exact va_neR (bg_of hgv z) (had i hi) (had j (Nat.lt_trans hj hi))
  · exact (va_neR (bg_of hgv z) (had j (Nat.lt_trans hj hi)) (had i hi)).symm
theorem bg_Cs {G : pm_G} (hB : gB G = s.heap.size) (hts : ∀ w ∈ lw_tbl, w.before #[Value.ref b] s = true) (hgv : (Jvm.Cond.and given_1 narrow_1).before #[Value.ref b] s = true) (hX : va_X b (gN G) (gX G) s s.heap) (hbl : b < s.heap.size) {ad : Nat → Nat} {t : Nat}
    (had : ∀ i : Nat, i < 22 → (bg_t i).eval #[Value.ref b] s none [] s = some (.ref (ad i)) ∧ va_O "RaisedQueue$Word" (ad i) (fun q : Nat => s.heap.size ≤ q) s s.heap) (ht : bg_tw.eval #[Value.ref b] s none [] s = some (.ref t)) (hT : va_T (.object "RaisedQueue$Word") t 22 (fun j => .ref (ad j)) (fun q : Nat => s.heap.size ≤ q) s s.heap)
    (hC : ∀ k : Nat, gC G k = if k < 22 then ad k else if k = 100 then t else b) (hst : (gl G).stackTraces = false) : pm_Cs G s s.heap := by
  have eA : pm_A G = fun q : Nat => s.heap.size ≤ q := by unfold pm_A; rw [hB]
  have hc : ∀ i : Nat, i < 22 → gC G i = ad i := fun i hi => (hC i).trans (if_pos hi)
  have h1 : gC G 100 = t := (hC 100).trans ((if_neg (show ¬ 100 < 22 by decide)).trans (if_pos rfl))
  have h2 : gC G 200 = b := (hC 200).trans ((if_neg (show ¬ 200 < 22 by decide)).trans (if_neg (show ¬ 200 = 100 by decide)))
  unfold pm_Cs
  rw [eA, h1, h2]
  refine ⟨fun i w hw => ?_, fun i j hi hj e => ?_, va_Zref (bg_at hts bg_la) (bg_at hts bg_in) ht bg_hA, ?_, hX, bg_hA b hbl, vx_Zqof (bg_at hts bg_tu) (bg_at hts bg_ti) (bg_of hgv bg_ru) bg_hA, vx_Zqof (bg_at hts bg_ts) (bg_at hts bg_ti) (bg_of hgv bg_rs) bg_hA, bg_str hts bg_s248 hgv bg_x248, bg_str hts bg_s256 hgv bg_x256, hst⟩
  · have hi : i < 22 := (List.getElem?_eq_some_iff.mp hw).1
    have hg : bg_w i = w := by
      unfold bg_w List.getD
      rw [hw]
      rfl
    have e := (had i hi).1
    have f1 := va_eqtl (bg_of hgv (bg_le i hi))
    have f2 := va_eqt (bg_of hgv (bg_fr i hi))
    have f3 := va_eqt (bg_of hgv (bg_ki i hi))
    have f4 := va_eqt (bg_of hgv (bg_fa i hi))
    rw [hg] at f1 f2 f3 f4
    have hn : bg_n i = w.1 := congrArg Prod.fst hg
    have z := va_Zref (bg_at hts (bg_lays i hi)) (bg_at hts bg_in) e bg_hA
    rw [hn] at z
    rw [hc i hi]
    exact ⟨z, (had i hi).2, vk_OFof e f1 bg_hA, vk_OFof e f2 bg_hA, vk_OFof e f3 bg_hA, vk_OFof e f4 bg_hA⟩
  · rw [hc i hi, hc j hj] at e
    have hd := fun i hi => (had i hi).1
    rcases Nat.lt_trichotomy i j with q | q | q
    · exact absurd e.symm (bg_dif hgv hd hj q)
    · exact q
    · exact absurd e (bg_dif hgv hd hi q)
  · obtain ⟨cell, k1, k2, k3, k4, k5, k6, k7⟩ := hT
    exact ⟨cell, k1, k2, k3, k4, k5, fun j hj => (k6 j hj).trans (congrArg (fun x : Nat => some (Value.ref x)) (hc j hj).symm), k7⟩
end PBG
/-- YOUR PART: from the entry, for every script of at most 3584 ints, the law comes to its end with true -/
theorem whole_start {p : Program} {e : Env} {s : State} {m : MethodId} {below : List Frame} {meth : Method} {c : Code} (l : Launch) (hflags : l.flags = flags0) {b L : Nat} {xs : Nat → Int32} (hL : L ≤ 3584) (hnm : meth.name = "law") (C0 : lw_At p s m meth c b L xs) : W p l e room_1 s m #[Value.ref b] below meth c s.heap [] 0 0 (lw_Z below #[Value.ref b] s) (entryFrame m ([Value.ref b] : List Value).toArray 7) := by
  obtain ⟨hx, hb, hr, hml, hown, hts, hX, hbl, hlocks, hgv⟩ := id C0
  obtain ⟨D, hD⟩ := bg_D hts
  obtain ⟨aA, hAr⟩ := bg_tys hts
  obtain ⟨ad, had⟩ := bg_enum hgv
  obtain ⟨t, ht, hT⟩ := bg_tab hgv (fun i hi => (had i hi).1)
  have hst : l.stackTraces = false := by
    unfold Launch.stackTraces
    rw [hflags]
    decide
  obtain ⟨cC, hC⟩ : ∃ f : Nat → Nat, ∀ k : Nat, f k = if k < 22 then ad k else if k = 100 then t else b := ⟨_, fun _ => rfl⟩
  obtain ⟨G, hG⟩ : ∃ G : pm_G, G = (l, D, s.heap.size, aA, cC, L, xs) := ⟨_, rfl⟩
  have eB : gB G = s.heap.size := by rw [hG]
  have eN : gN G = L := by rw [hG]
  have eC : gC G = cC := by rw [hG]
  have eL : gl G = l := by rw [hG]
  have hCs : pm_Cs G s s.heap := bg_Cs eB hts hgv (by rw [hG]; exact hX) hbl had ht hT (fun k => by rw [eC]; exact hC k) (by rw [eL]; exact hst)
  have hK : va_K (gD G) vwCl (pm_tys G) s := by rw [hG]; exact ⟨hD, hAr⟩
  have hTT : pm_T G s s.heap := ⟨hK, hCs, Nat.le_of_eq eB, bg_gn hts, va_AO.of (bg_at hts bg_a5)⟩
  have hCx : pm_Cx G mL p s m #[Value.ref b] meth c := ⟨hx, hb, hml, hown, bg_gw hts, hr, hlocks, hnm, hTT⟩
  have hl := lv_entry ([.ref b]) (n := 7) (Nat.le_of_ble_eq_true rfl)
  have h2 : gC G 200 = b := by
    rw [eC]
    exact (hC 200).trans ((if_neg (show ¬ 200 < 22 by decide)).trans (if_neg (show ¬ 200 = 100 by decide)))
  rw [lg_entry_eq]
  generalize (lg_sl ([.ref b]) ++ List.replicate (7 - (lg_sl ([.ref b])).length) Slot.unset).toArray = ls at hl ⊢
  have hl : lv_has ls 7 [(0, .ref b)] := hl
  have h3 := law_start (e := e) (below := below) (by rw [eN]; exact hL) eB hCx hl.1 hl.2.1 (by rw [h2]; exact hl.2.2 (0, .ref b) List.mem_cons_self)
  rw [eL] at h3
  exact h3
