/-! THE CLASS's OWN: what is told, SHUT, kept -/
theorem tv_of {G : pm_G} {d : Nat} {h : pm_H} {P : Pl} (hL : La h) (hO : PlO P) (e1 : gi h 17 1 = nI (pLw P).length) (e2 : CO (gi h 19) 0 (pLw P)) (e3 : gi h 3 8 = nI (pSh P)) : TVc G d h (tvP P) := by
  have t := s_TVc (G := G) (d := d) (n := (pLw P).length) (ops := pLw P) hL.lr e1 hO.2.2.2.2.2.2.2.2.1 rfl e2 (fun q => hO.2.2.2.2.2.2.2.2.2.1 (fun z => q (by rw [z]; rfl)))
  rw [e3] at t
  exact t
theorem InvC.tv {G : pm_G} {d : Nat} {h : pm_H} {s : Sta} (i : InvC h s) (hO : PlO (sP s)) : TVc G d h (tvP (sP s)) := tv_of i.la hO i.pl.2.2.2.2.2.1 i.pl.2.2.2.2.2.2.1 i.pl.2.2.2.2.2.2.2
theorem gr_of {G : pm_G} {d : Nat} {h : pm_H} {P : Pl} (hL : La h) (e3 : gi h 452 3 = nI (pSh P)) (p10 : LwR h 0 0 P) (hO : PlO P) (hB : PlB P) : GRc G (d + 3) h (tvP P) := by
  have t := r_GRc (G := G) (d := d) (n := (pLw P).length) (from0 := 0) (ops := pLw P) hL.ml rfl (by
    unfold LwR at p10
    by_cases c : pLw P = []
    · rw [if_pos c] at p10; rw [if_pos (by rw [c]; rfl)]; exact p10
    · rw [if_neg c] at p10
      have nc : ¬ (pLw P).length = 0 := fun q => c (List.length_eq_zero_iff.mp q)
      rw [if_neg nc]
      have b := hO.2.2.2.2.2.2.2.2.1
      exact ⟨p10.1, by omega, p10.2.1.cr hB p10.2.2, hO.2.2.2.2.2.2.2.2.2.1 c⟩)
  rw [e3] at t
  exact t
def inB (n : Nat) (x : Int32) : Bool := decide (0 ≤ x.toInt) && decide (x.toInt < n)
def ix (x : Int32) : Nat := x.toInt.toNat
theorem ix_nI {a : Nat} (h : a < 2 ^ 31) : ix (nI a) = a := by
  unfold ix
  rw [nI_toInt h]; omega
theorem nI_ix {x : Int32} (h : 0 ≤ x.toInt) : x = nI (ix x) := by
  have b : x.toInt < 2 ^ 31 := Int32.toInt_lt x
  rw [i_eq, nI_toInt (by unfold ix; omega)]
  unfold ix; omega
theorem inB_or {n : Nat} (x : Int32) (hn : n < 2 ^ 31) : inB n x = false ∨ ∃ a, a < n ∧ x = nI a ∧ inB n x = true ∧ ix x = a := by
  unfold inB
  by_cases c1 : 0 ≤ x.toInt
  · by_cases c2 : x.toInt < n
    · exact Or.inr ⟨ix x, by unfold ix; omega, nI_ix c1, by rw [decide_eq_true c1, decide_eq_true c2]; rfl, rfl⟩
    · exact Or.inl (by rw [decide_eq_false c2, Bool.and_false])
  · exact Or.inl (by rw [decide_eq_false c1, Bool.false_and])
theorem inB_lt {n : Nat} {x : Int32} (h1 : ¬ x < 0) (h2 : ¬ nI n ≤ x) (hn : n < 2 ^ 31) : inB n x = true := by
  rw [i_lt0] at h1
  rw [i_le, nI_toInt hn] at h2
  unfold inB
  rw [decide_eq_true (show 0 ≤ x.toInt by omega), decide_eq_true (show x.toInt < n by omega)]; rfl
theorem inB_no {n : Nat} {x : Int32} (h : x < 0 ∨ nI n ≤ x) (hn : n < 2 ^ 31) : inB n x = false := by
  rw [i_lt0, i_le, nI_toInt hn] at h
  unfold inB
  rcases h with h | h
  · rw [decide_eq_false (show ¬ 0 ≤ x.toInt by omega)]; rfl
  · rw [decide_eq_false (show ¬ x.toInt < n by omega), Bool.and_false]
theorem b0f : b2i false = 0 := rfl
theorem b1t : ¬ b2i true = 0 := by decide
section CB
variable {G : pm_G} {d : Nat} {h : pm_H} {s : Sta}
theorem La.own (hL : La h) : h.1[0]? = some (0, 10) ∧ gp h 0 0 = 1 ∧ gp h 0 1 = 3 ∧ gp h 0 2 = 22 ∧ gp h 0 3 = 41 ∧ gp h 0 4 = 48 ∧ gp h 0 5 = 55 ∧ gp h 0 6 = 59 ∧ gp h 0 7 = 90 ∧ gp h 0 8 = 128 ∧ gp h 0 11 = 130 ∧ gp h 0 14 = 131 ∧ gp h 0 15 = 132 ∧ gp h 0 16 = 134 := ⟨hL.k (by decide +kernel), hL.p (by decide +kernel) (by omega), hL.p (by decide +kernel) (by omega), hL.p (by decide +kernel) (by omega), hL.p (by decide +kernel) (by omega), hL.p (by decide +kernel) (by omega), hL.p (by decide +kernel) (by omega), hL.p (by decide +kernel) (by omega), hL.p (by decide +kernel) (by omega), hL.p (by decide +kernel) (by omega), hL.p (by decide +kernel) (by omega), hL.p (by decide +kernel) (by omega), hL.p (by decide +kernel) (by omega), hL.p (by decide +kernel) (by omega)⟩
theorem La.pln (hL : La h) : h.1[3]? = some (0, 4) ∧ gp h 3 0 = 4 ∧ gp h 3 1 = 6 ∧ gp h 3 2 = 8 ∧ h.1[4]? = some (0, 3) ∧ h.1[6]? = some (0, 3) ∧ h.1[8]? = some (0, 3) := ⟨hL.k (by decide +kernel), hL.p (by decide +kernel) (by omega), hL.p (by decide +kernel) (by omega), hL.p (by decide +kernel) (by omega), hL.k (by decide +kernel), hL.k (by decide +kernel), hL.k (by decide +kernel)⟩
theorem La.rws (hL : La h) : gp h 3 3 = 10 ∧ gp h 3 4 = 12 ∧ Ro h 10 11 2 ∧ Ro h 12 13 20 ∧ Ro h 128 129 8 ∧ Ro h 132 133 16 ∧ Ro h 134 135 2 ∧ h.1[130]? = some (6, 8) ∧ h.1[131]? = some (6, 2) := ⟨hL.p (by decide +kernel) (by omega), hL.p (by decide +kernel) (by omega), hL.ro (by decide +kernel) (by decide +kernel) (by decide +kernel) (by decide), hL.ro (by decide +kernel) (by decide +kernel) (by decide +kernel) (by decide), hL.ro (by decide +kernel) (by decide +kernel) (by decide +kernel) (by decide), hL.ro (by decide +kernel) (by decide +kernel) (by decide +kernel) (by decide), hL.ro (by decide +kernel) (by decide +kernel) (by decide +kernel) (by decide), hL.k (by decide +kernel), hL.k (by decide +kernel)⟩
theorem InvC.hn (i : InvC h s) : gi h 4 1 = nI (pHn (sP s)) ∧ gi h 6 1 = nI (pSs (sP s)) ∧ gi h 8 1 = nI (pN (sP s)) := by
  have a := i.pl.2.1.1
  have b := i.pl.2.2.1.1
  unfold pSn at a
  unfold pIn at b
  rw [List.length_map] at a b
  exact ⟨i.pl.1.1, a, b⟩
theorem c_isHeap {x : Int32} {Q : Int32 → pm_H → Prop} (i : InvC h s) (hO : PlO (sP s)) (k : Q (b2i (inB (pHn (sP s)) x)) h) : ci G (d + 1) m_X11_isHeap [.ref 0, .int x] h Q := by
  have b : pHn (sP s) ≤ 3 := hO.2.2.2.1
  obtain ⟨o1, -, o2, -⟩ := i.la.own
  obtain ⟨p1, p2, p3, p4, p5, p6, p7⟩ := i.la.pln
  refine ci_wp rfl (Nat.le_of_ble_eq_true rfl) rfl (x_X11_isHeap ?_)
  by_cases c : x < 0
  · rw [if_pos c]; rw [inB_no (Or.inl c) (by omega)] at k; exact ⟨_, rfl, k⟩
  · rw [if_neg c, o2, p2, i.hn.1]
    refine ⟨o1, p1, p5, ?_⟩
    by_cases c2 : nI (pHn (sP s)) ≤ x
    · rw [if_pos c2]; rw [inB_no (Or.inr c2) (by omega)] at k; exact ⟨_, rfl, k⟩
    · rw [if_neg c2]; rw [inB_lt c c2 (by omega)] at k; exact ⟨_, rfl, k⟩
theorem c_isShelf {x : Int32} {Q : Int32 → pm_H → Prop} (i : InvC h s) (hO : PlO (sP s)) (k : Q (b2i (inB (pSs (sP s)) x)) h) : ci G (d + 1) m_X11_isShelf [.ref 0, .int x] h Q := by
  have b : pSs (sP s) ≤ 2 := hO.2.2.2.2.1
  obtain ⟨o1, -, o2, -⟩ := i.la.own
  obtain ⟨p1, p2, p3, p4, p5, p6, p7⟩ := i.la.pln
  refine ci_wp rfl (Nat.le_of_ble_eq_true rfl) rfl (x_X11_isShelf ?_)
  by_cases c : x < 0
  · rw [if_pos c]; rw [inB_no (Or.inl c) (by omega)] at k; exact ⟨_, rfl, k⟩
  · rw [if_neg c, o2, p3, i.hn.2.1]
    refine ⟨o1, p1, p6, ?_⟩
    by_cases c2 : nI (pSs (sP s)) ≤ x
    · rw [if_pos c2]; rw [inB_no (Or.inr c2) (by omega)] at k; exact ⟨_, rfl, k⟩
    · rw [if_neg c2]; rw [inB_lt c c2 (by omega)] at k; exact ⟨_, rfl, k⟩
theorem c_isItem {x : Int32} {Q : Int32 → pm_H → Prop} (i : InvC h s) (hO : PlO (sP s)) (k : Q (b2i (inB (pN (sP s)) x)) h) : ci G (d + 1) m_X11_isItem [.ref 0, .int x] h Q := by
  have b : pN (sP s) ≤ 20 := hO.2.2.2.2.2.1
  obtain ⟨o1, -, o2, -⟩ := i.la.own
  obtain ⟨p1, p2, p3, p4, p5, p6, p7⟩ := i.la.pln
  refine ci_wp rfl (Nat.le_of_ble_eq_true rfl) rfl (x_X11_isItem ?_)
  by_cases c : x < 0
  · rw [if_pos c]; rw [inB_no (Or.inl c) (by omega)] at k; exact ⟨_, rfl, k⟩
  · rw [if_neg c, o2, p4, i.hn.2.2]
    refine ⟨o1, p1, p7, ?_⟩
    by_cases c2 : nI (pN (sP s)) ≤ x
    · rw [if_pos c2]; rw [inB_no (Or.inr c2) (by omega)] at k; exact ⟨_, rfl, k⟩
    · rw [if_neg c2]; rw [inB_lt c c2 (by omega)] at k; exact ⟨_, rfl, k⟩
abbrev stN (s : Sta) (n : Nat) : Sta := (s.1, s.2.1, s.2.2.1, s.2.2.2.1, s.2.2.2.2.1, s.2.2.2.2.2.1, n, s.2.2.2.2.2.2.2)
abbrev stA (s : Sta) (A : AF) : Sta := (s.1, s.2.1, s.2.2.1, A, s.2.2.2.2)
theorem c_shutHeap {x : Int32} {Q : Int32 → pm_H → Prop} (i : InvC h s) (hO : PlO (sP s)) (k0 : inB (pHn (sP s)) x = false → Q 0 h) (k1 : inB (pHn (sP s)) x = true → ∀ h', h' = si h 0 10 (nI (sN s + 1)) → InvC h' (stN s (sN s + 1)) → FrA h h' → Q 1 h') : ci G (d + 2) m_X11_shutHeap [.ref 0, .int x] h Q := by
  obtain ⟨o1, -⟩ := i.la.own
  refine ci_wp rfl (Nat.le_of_ble_eq_true rfl) rfl (x_X11_shutHeap ⟨o1, c_isHeap i hO ?_⟩)
  cases c : inB (pHn (sP s)) x with
  | false => rw [if_pos b0f]; exact ⟨_, rfl, k0 c⟩
  | true =>
    rw [if_neg b1t]
    refine ⟨o1, ?_⟩
    rintro _ rfl
    rw [i.shut, show (1 : Int32) = nI 1 from rfl, nI_add]
    exact ⟨_, rfl, k1 c _ rfl i.setN (FrA.si (by decide))⟩
theorem past_ref (hL : La h) {j : Nat} (hj : j < 8) : gp h 130 j = 136 + 31 * j := by
  have : ∀ j ∈ List.range 8, P0 130 j = 136 + 31 * j := by decide +kernel
  exact hL.p (this j (List.mem_range.mpr hj)) (by omega)
theorem mark_ref (hL : La h) {j : Nat} (hj : j < 2) : gp h 131 j = 384 + 31 * j := by
  have : ∀ j ∈ List.range 2, P0 131 j = 384 + 31 * j := by decide +kernel
  exact hL.p (this j (List.mem_range.mpr hj)) (by omega)
theorem c_pastAt {j : Nat} {Q : Nat → pm_H → Prop} (hL : La h) (hj : j < 8) (k : Q (136 + 31 * j) h) : cp G (d + 1) m_X11_forestAt [.ref 0, .ref 130, .int (nI j)] h Q := by
  obtain ⟨o1, -⟩ := hL.own
  refine cp_wp rfl (Nat.le_of_ble_eq_true rfl) rfl (x_X11_forestAt ?_)
  rw [if_neg (nI_pos (by omega))]
  refine ⟨8, hL.rws.2.2.2.2.2.2.2.1, ?_⟩
  rw [if_neg (show ¬ Int32.ofNat 8 ≤ nI j from nI_nlen hj (by decide)), cl_nI (show j < 2 ^ 31 by omega), past_ref hL hj]
  refine ⟨vp_nI hj (by decide), ?_, _, rfl, k⟩
  rw [hL.1]
  have : K0.length = 464 := by decide +kernel
  omega
theorem c_markAt {j : Nat} {Q : Nat → pm_H → Prop} (hL : La h) (hj : j < 2) (k : Q (384 + 31 * j) h) : cp G (d + 1) m_X11_forestAt [.ref 0, .ref 131, .int (nI j)] h Q := by
  obtain ⟨o1, -⟩ := hL.own
  refine cp_wp rfl (Nat.le_of_ble_eq_true rfl) rfl (x_X11_forestAt ?_)
  rw [if_neg (nI_pos (by omega))]
  refine ⟨2, hL.rws.2.2.2.2.2.2.2.2, ?_⟩
  rw [if_neg (show ¬ Int32.ofNat 2 ≤ nI j from nI_nlen hj (by decide)), cl_nI (show j < 2 ^ 31 by omega), mark_ref hL hj]
  refine ⟨vp_nI hj (by decide), ?_, _, rfl, k⟩
  rw [hL.1]
  have : K0.length = 464 := by decide +kernel
  omega
abbrev stU (s : Sta) (us : List AF) : Sta := (s.1, s.2.1, s.2.2.1, s.2.2.2.1, us, s.2.2.2.2.2)
theorem past_mem {j : Nat} (hj : j < 8) : 136 + 31 * j ∈ FLs := by
  have : ∀ j ∈ List.range 8, 136 + 31 * j ∈ FLs := by decide
  exact this j (List.mem_range.mpr hj)
theorem mark_mem {j : Nat} (hj : j < 2) : 384 + 31 * j ∈ FLs := by
  have : ∀ j ∈ List.range 2, 384 + 31 * j ∈ FLs := by decide
  exact this j (List.mem_range.mpr hj)
theorem mod8 : ∀ n ∈ List.range 9, (nI n + 1) - (nI n + 1) / 8 * 8 = nI ((n + 1) % 8) ∧ ((nI n + 8) - 1) - ((nI n + 8) - 1) / 8 * 8 = nI ((n + 7) % 8) := by decide +kernel
theorem take7 {us : List AF} {A : AF} (h : us.length ≤ 8) : ((A :: us).take 8).length = if us.length = 8 then 8 else us.length + 1 := by
  rw [List.length_take, List.length_cons]
  split <;> omega
theorem c_remember {Q : pm_H → Prop} (i : InvC h s) (hu : (sU s).length ≤ 8) (k : ∀ h', InvC h' (stU s ((sA s :: sU s).take 8)) → FrA h h' → gi h' 0 10 = gi h 0 10 → Q h') : cv G (d + 3) m_X11_remember [.ref 0] h Q := by
  obtain ⟨i1, i2, i3, i4, i5, ⟨nw, p1, p2, p3, p4⟩, i7, i8, i9⟩ := i
  obtain ⟨o1, o0, o_1, o_2, o3, o4, o5, o6, o7, o8, o11, o14, o15, o16⟩ := i1.own
  refine cv_wp rfl (Nat.le_of_ble_eq_true rfl) rfl (x_X11_remember ⟨o1, ?_⟩)
  rintro _ rfl
  rw [p2, (mod8 nw (List.mem_range.mpr (by omega))).1, si_00, if_pos rfl]
  have hLX : La (si h 0 12 (nI ((nw + 1) % 8))) := i1
  rw [show gp (si h 0 12 (nI ((nw + 1) % 8))) 0 11 = 130 from o11]
  have hm : (nw + 1) % 8 < 8 := Nat.mod_lt _ (by decide)
  refine c_pastAt (d := d + 1) hLX hm ⟨o1, (fa_of hLX (past_mem hm)).1, ?_⟩
  rw [show gp (si h 0 12 (nI ((nw + 1) % 8))) 0 6 = 59 from o6]
  have cX : CF (gi (si h 0 12 (nI ((nw + 1) % 8)))) 59 (sA s) := i5.keep fun q _ => si_0n (by omega)
  refine s_copyFrom (d := d) (fa_of hLX (past_mem hm)) (fa_of hLX (by decide)) (by omega) cX (fun M1 c1 f1 => ⟨o1, ?_⟩)
  have e0 : ∀ j, M1 0 j = gi (si h 0 12 (nI ((nw + 1) % 8))) 0 j := fun j => congrFun (f1 0 (fun q _ => by omega) (by decide)) j
  have e13 : gi (sm (si h 0 12 (nI ((nw + 1) % 8))) M1) 0 13 = nI (sU s).length := by
    show M1 0 13 = _
    rw [e0, si_00, if_neg (by decide)]; exact p3
  rw [e13, show (1 : Int32) = nI 1 from rfl, nI_add]
  refine j_min (d := d + 1) ⟨o1, ?_⟩
  rintro _ rfl
  have lenE : (if (8 : Int32) < nI ((sU s).length + 1) then (8 : Int32) else nI ((sU s).length + 1)) = nI ((sA s :: sU s).take 8).length := by
    rw [take7 hu]
    by_cases c : (sU s).length = 8
    · rw [if_pos c, if_pos (by rw [i_lt, nI_toInt (by omega)]; show (8 : Int) < _; omega)]; rfl
    · rw [if_neg c, if_neg (by rw [i_lt, nI_toInt (by omega)]; show ¬ (8 : Int) < _; omega)]
  rw [lenE]
  have ne : ∀ a, a ≠ 0 → (∀ q, 1 ≤ q ∧ q ≤ 15 → a ≠ 136 + 31 * ((nw + 1) % 8) + 2 * q) → a ≠ 21 → gi (si (sm (si h 0 12 (nI ((nw + 1) % 8))) M1) 0 13 (nI ((sA s :: sU s).take 8).length)) a = gi h a := by
    intro a a0 a1 a2
    rw [si_0n a0]
    show M1 a = _
    rw [f1 a a1 a2, si_0n a0]
  have f0 : ∀ j, j ≠ 12 → j ≠ 13 → gi (si (sm (si h 0 12 (nI ((nw + 1) % 8))) M1) 0 13 (nI ((sA s :: sU s).take 8).length)) 0 j = gi h 0 j := by
    intro j j1 j2
    rw [si_00, if_neg j2]
    show M1 0 j = _
    rw [e0, si_00, if_neg j1]
  refine ⟨rfl, k _ ?_ ⟨rfl, fun a ha => ne a (by omega) (fun q _ => by omega) (by omega), fun _ _ => rfl, fun _ _ _ => rfl⟩ (f0 10 (by decide) (by decide))⟩
  refine ⟨i1, i2.of (congrFun (ne 1 (by decide) (fun q _ => by omega) (by decide)) 1) (ne 2 (by decide) (fun q _ => by omega) (by decide)), i3.of (fun a _ _ => ne a (by omega) (fun q _ => by omega) (by omega)) (fun a _ _ => rfl) (fun a _ _ => rfl), i4.of (fun a _ => ne a (by omega) (fun q _ => by omega) (by omega)), i5.keep (fun q _ => ne _ (by omega) (fun q _ => by omega) (by omega)), ?_, i7.of (f0 9 (by decide) (by decide)) (ne 129 (by decide) (fun q _ => by omega) (by decide)), (f0 10 (by decide) (by decide)).trans i8, i9.of (fun a _ => ne a (by omega) (fun q _ => by omega) (by omega))⟩
  refine ⟨(nw + 1) % 8, hm, ?_, ?_, fun j A hA => ?_⟩
  · rw [si_00, if_neg (by decide)]
    show M1 0 12 = _
    rw [e0, si_00, if_pos rfl]
  · rw [si_00, if_pos rfl]
  · have hj8 : j < 8 := by
      have := (List.getElem?_eq_some_iff.mp hA).1
      rw [List.length_take] at this
      omega
    rw [List.getElem?_take_of_lt hj8] at hA
    cases j with
    | zero =>
      have hA : some (sA s) = some A := hA
      cases hA
      rw [show (136 + 31 * (((nw + 1) % 8 + 8 - 0) % 8)) = 136 + 31 * ((nw + 1) % 8) by omega]
      exact c1.keep fun q _ => si_0n (by omega)
    | succ j =>
      rw [List.getElem?_cons_succ] at hA
      have c2 := p4 j A hA
      rw [show ((nw + 1) % 8 + 8 - (j + 1)) % 8 = (nw + 8 - j) % 8 by omega]
      exact c2.keep fun q _ => ne _ (by omega) (fun q2 _ => by omega) (by omega)
end CB
