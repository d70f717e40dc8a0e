/-! FED: both sides -/
def layB (tx : List Nat) (c : Nat) : List Nat := if (c = 10 ∨ (32 ≤ c ∧ c ≤ 126)) ∧ tx.length < 1000 then tx ++ [c] else tx
def layF (l : Int64) : Nat → List Nat → List Nat
  | 0, tx => tx
  | n + 1, tx => layF l n (layB tx (byt l (8 * n)))
def lshf : Nat → Int32
  | 0 => -8
  | n + 1 => nI (8 * n)
theorem lshf_s : ∀ n ∈ List.range 8, nI (8 * n) + (-8) = lshf n := by decide +kernel
theorem nar_b : ∀ c ∈ List.range 127, vp_nar .byte ((nI c).toInt8.toInt32) = nI c := by decide +kernel
theorem TxO_layB {tx : List Nat} {c : Nat} (h : TxO tx) : TxO (layB tx c) := by
  unfold layB
  split
  next q =>
    refine ⟨by rw [List.length_append, List.length_singleton]; omega, fun x hx => ?_⟩
    rcases List.mem_append.mp hx with z | z
    · exact h.2 x z
    · rw [List.mem_singleton.mp z]; exact q.1
  next => exact h
theorem TxO_layF {l : Int64} : ∀ (n : Nat) (tx : List Nat), TxO tx → TxO (layF l n tx)
  | 0, _, h => h
  | n + 1, tx, h => TxO_layF n _ (TxO_layB h)
theorem chA_app {tx : List Nat} {c j : Nat} : chA (tx ++ [c]) j = if j < tx.length then chA tx j else if j = tx.length then c else 0 := by
  unfold chA
  rw [List.getD_eq_getElem?_getD, List.getD_eq_getElem?_getD]
  by_cases h1 : j < tx.length
  · rw [if_pos h1, List.getElem?_append_left h1]
  · rw [if_neg h1, List.getElem?_append_right (by omega)]
    by_cases h2 : j = tx.length
    · rw [if_pos h2, h2, Nat.sub_self]; rfl
    · rw [if_neg h2, List.getElem?_eq_none (by rw [List.length_singleton]; omega)]; rfl
abbrev stTx (s : Sta) (tx : List Nat) : Sta := (tx, s.2)
abbrev fedT (s : Sta) (a b c : Int64) : List Nat := layF c 8 (layF b 8 (layF a 8 (sT s)))
def nFeed (s : Sta) (a b c : Int64) : Int32 × Sta := (nI (fedT s a b c).length, stTx s (fedT s a b c))
theorem okSta_T {s : Sta} {w : Nat} {tx : List Nat} (ok : okSta s w) (h : TxO tx) : okSta (stTx s tx) w := ⟨h, ok.2⟩
theorem okSta_feed {s : Sta} {w : Nat} {a b c : Int64} (ok : okSta s w) : okSta (nFeed s a b c).2 w := okSta_T ok (TxO_layF _ _ (TxO_layF _ _ (TxO_layF _ _ ok.tx)))
section FED
variable {G : pm_G} {d : Nat} {h : pm_H} {s : Sta} {w : Nat}
def FrX (h h' : pm_H) : Prop := h'.1 = h.1 ∧ (∀ a, a ≠ 1 → a ≠ 2 → gi h' a = gi h a) ∧ h'.2.2 = h.2.2
theorem FrX.rfl' {h : pm_H} : FrX h h := ⟨rfl, fun _ _ _ => rfl, rfl⟩
theorem FrX.trans {h h1 h2 : pm_H} (a : FrX h h1) (b : FrX h1 h2) : FrX h h2 := ⟨b.1.trans a.1, fun x h1 h2 => (b.2.1 x h1 h2).trans (a.2.1 x h1 h2), b.2.2.trans a.2.2⟩
theorem FrX.la {h h' : pm_H} (f : FrX h h') (hL : La h) : La h' := ⟨f.1.trans hL.1, fun a k hx => by show h'.2.2.2.2 a k = _; rw [f.2.2]; exact hL.2 a k hx⟩
theorem s_addLoop {l : Int64} {Q : pm_H → Prop} : ∀ (n : Nat) (tx : List Nat) (h : pm_H), n ≤ 8 → La h → TxO tx → TxC h tx → (∀ h', FrX h h' → TxC h' (layF l n tx) → Q h') → Wp G (m_X7_addBytes, d + 1, 0, 0, fun v h1 => v = none ∧ Q h1) (0, 0) 3 [.ref 1, .long l, .null, .int (lshf n), .null, .null] [] h
  | 0, tx, h, _, hL, hO, hT, k => by
    refine x_X7_addBytes_3 ?_
    rw [if_pos (show lshf 0 < 0 by decide)]
    exact ⟨rfl, k h FrX.rfl' hT⟩
  | n + 1, tx, h, hn, hL, hO, hT, k => by
    obtain ⟨t1, t2, t3⟩ := hL.tap
    have len := hO.1
    have ih := fun tx' h' a b c e => s_addLoop (l := l) (Q := Q) n tx' h' (by omega) a b c e
    refine x_X7_addBytes_3 ?_
    rw [show lshf (n + 1) = nI (8 * n) from rfl, if_neg (nI_pos (by omega))]
    rintro x1 rfl
    rw [byC l n (by omega)]
    have b256 := byt_lt l (8 * n)
    have nx : lshf (n + 1) + (-8) = lshf n := lshf_s n (List.mem_range.mpr (by omega))
    rw [show lshf (n + 1) = nI (8 * n) from rfl] at nx
    have k : ∀ h', FrX h h' → TxC h' (layF l n (layB tx (byt l (8 * n)))) → Q h' := k
    generalize byt l (8 * n) = c at *
    have skip : layB tx c = tx → Wp G (m_X7_addBytes, d + 1, 0, 0, fun v h1 => v = none ∧ Q h1) (0, 0) 3 [.ref 1, .long l, .null, .int (lshf n), .null, .null] [] h := fun e => by
      rw [e] at k
      exact ih tx h hL hO hT k
    have goes : (c = 10 ∨ (32 ≤ c ∧ c ≤ 126)) → Wp G (m_X7_addBytes, d + 1, 0, 0, fun v h1 => v = none ∧ Q h1) (0, 0) 38 [.ref 1, .long l, .null, .int (nI (8 * n)), .int (nI c), .null] [] h := fun hc => by
      refine x_X7_addBytes_38 ⟨t1, ?_⟩
      rw [hT.1, if_neg (nI_pos (by omega)), t2, nx]
      refine ⟨1000, t3, ?_⟩
      by_cases c1 : tx.length < 1000
      · rw [if_neg (show ¬ Int32.ofNat 1000 ≤ nI tx.length from nI_nlen c1 (by decide)), cl_nI (show tx.length < 2 ^ 31 by omega), nar_b c (List.mem_range.mpr (by omega))]
        refine ⟨vp_nI c1 (by decide), ?_⟩
        rintro _ rfl _ rfl
        have e11 : gi (si h 2 tx.length (nI c)) 1 1 = nI tx.length := (congrFun (pm_u_ne (gi h) tx.length (nI c) (show (1 : Nat) ≠ 2 by decide)) 1).trans hT.1
        rw [e11, show (1 : Int32) = nI 1 from rfl, nI_add]
        have el : layB tx c = tx ++ [c] := if_pos ⟨hc, c1⟩
        rw [el] at k
        have fr : FrX h (si (si h 2 tx.length (nI c)) 1 1 (nI (tx.length + 1))) := ⟨rfl, fun a h1 h2 => (pm_u_ne _ _ _ h1).trans (pm_u_ne _ _ _ h2), rfl⟩
        refine ih (tx ++ [c]) _ hL (by rw [← el]; exact TxO_layB hO) ⟨?_, fun j hj => ?_⟩ (fun h' f t => k h' (fr.trans f) t)
        · show pm_u (gi (si h 2 tx.length (nI c))) 1 1 (nI (tx.length + 1)) 1 1 = _
          rw [pm_u_at, List.length_append, List.length_singleton]; exact if_pos rfl
        · rw [List.length_append, List.length_singleton] at hj
          show pm_u (gi (si h 2 tx.length (nI c))) 1 1 (nI (tx.length + 1)) 2 j = _
          rw [pm_u_ne _ _ _ (show 2 ≠ 1 by decide)]
          show pm_u (gi h) 2 tx.length (nI c) 2 j = _
          rw [pm_u_at, chA_app]
          unfold pm_ui
          by_cases q : j = tx.length
          · rw [if_pos q, if_neg (by omega), if_pos q]
          · rw [if_neg q, if_pos (by omega)]; exact hT.2 j (by omega)
      · rw [if_pos (show Int32.ofNat 1000 ≤ nI tx.length by rw [show tx.length = 1000 by omega]; exact nI_len)]
        exact skip (if_neg (fun q => c1 q.2))
    have stay : ¬ (c = 10 ∨ (32 ≤ c ∧ c ≤ 126)) → Wp G (m_X7_addBytes, d + 1, 0, 0, fun v h1 => v = none ∧ Q h1) (0, 0) 42 [.ref 1, .long l, .null, .int (nI (8 * n)), .int (nI c), .null] [] h := fun hc => by
      refine x_X7_addBytes_42 ?_
      rw [nx]
      exact skip (if_neg (fun q => hc q.1))
    by_cases c1 : c = 10
    · rw [if_pos (show nI c = 10 by rw [c1]; rfl)]
      exact goes (Or.inl c1)
    · rw [if_neg (show ¬ nI c = 10 from fun q => c1 ((nI_inj (b := 10) (by omega) (by decide)).mp q))]
      by_cases c2 : c < 32
      · rw [if_pos (show nI c < 32 by rw [i_lt, nI_toInt (by omega)]; show _ < (32 : Int); omega)]
        exact stay (by omega)
      · rw [if_neg (show ¬ nI c < 32 by rw [i_lt, nI_toInt (by omega)]; show ¬ _ < (32 : Int); omega)]
        by_cases c3 : 126 < c
        · rw [if_pos (show (126 : Int32) < nI c by rw [i_lt, nI_toInt (by omega)]; show (126 : Int) < _; omega)]
          exact stay (by omega)
        · rw [if_neg (show ¬ (126 : Int32) < nI c by rw [i_lt, nI_toInt (by omega)]; show ¬ (126 : Int) < _; omega)]
          exact goes (by omega)
theorem s_addBytes {l : Int64} {tx : List Nat} {Q : pm_H → Prop} (hL : La h) (hO : TxO tx) (hT : TxC h tx) (k : ∀ h', FrX h h' → TxC h' (layF l 8 tx) → Q h') : cv G (d + 1) m_X7_addBytes [.ref 1, .long l] h Q :=
  cv_wp rfl (Nat.le_of_ble_eq_true rfl) rfl (x_X7_addBytes (s_addLoop (l := l) 8 tx h (Nat.le_refl _) hL hO hT k))
theorem InvC_T {h' : pm_H} {tx : List Nat} (i : InvC h s) (f : FrX h h') (hT : TxC h' tx) : InvC h' (stTx s tx) := by
  obtain ⟨i1, i2, i3, i4, i5, i6, i7, i8, i9⟩ := i
  have e : ∀ a, a ≠ 1 → a ≠ 2 → gi h' a = gi h a := f.2.1
  have ej : gj h' = gj h := by show h'.2.2.1 = _; rw [f.2.2]
  have ef : gf h' = gf h := by show h'.2.2.2.1 = _; rw [f.2.2]
  have e0 := e 0 (by decide) (by decide)
  exact ⟨f.la i1, hT, i3.of (fun a _ _ => e a (by omega) (by omega)) (fun a _ _ => by rw [ej]) (fun a _ _ => by rw [ef]), i4.of (fun a _ => e a (by omega) (by omega)), i5.keep (fun q _ => e _ (by omega) (by omega)), i6.of (congrFun e0 12) (congrFun e0 13) (fun a _ _ => e a (by omega) (by omega)), i7.of (congrFun e0 9) (e 129 (by decide) (by decide)), (congrFun e0 10).trans i8, i9.of (fun a _ => e a (by omega) (by omega))⟩
theorem FrX.fa {h h' : pm_H} (f : FrX h h') : FrA h h' := ⟨f.1, fun a ha => f.2.1 a (by omega) (by omega), fun a _ => by show h'.2.2.1 a = _; rw [f.2.2], fun a k _ => by show h'.2.2.2.2 a k = _; rw [f.2.2]⟩
theorem c_feed {a b c : Int64} {Q : Int32 → pm_H → Prop} (i : InvC h s) (ok : okSta s w) (k : ∀ h', InvC h' (nFeed s a b c).2 → FrA h h' → Q (nFeed s a b c).1 h') : ci G (d + 2) m_X11_feed [.ref 0, .long a, .long b, .long c] h Q := by
  have o1 := TxO_layF (l := a) 8 _ ok.tx
  have o2 := TxO_layF (l := b) 8 _ o1
  refine ci_wp rfl (Nat.le_of_ble_eq_true rfl) rfl (x_X11_feed ⟨i.la.own.1, ?_⟩)
  rw [i.la.own.2.1]
  refine ⟨i.la.tap.1, s_addBytes (d := d) i.la ok.tx i.tx (fun h1 f1 t1 => ?_)⟩
  have l1 := f1.la i.la
  rw [l1.own.2.1]
  refine ⟨l1.own.1, l1.tap.1, s_addBytes (d := d) l1 o1 t1 (fun h2 f2 t2 => ?_)⟩
  have l2 := f2.la l1
  rw [l2.own.2.1]
  refine ⟨l2.own.1, l2.tap.1, s_addBytes (d := d) l2 o2 t2 (fun h3 f3 t3 => ?_)⟩
  have l3 := f3.la l2
  have f9 := (f1.trans f2).trans f3
  rw [l3.own.2.1, t3.1]
  exact ⟨l3.own.1, l3.tap.1, _, rfl, k h3 (InvC_T i f9 t3) f9.fa⟩
/-- the reference -/
def FrY (h h' : pm_H) : Prop := h'.1 = h.1 ∧ (∀ a, a ≠ 446 → a ≠ 447 → gi h' a = gi h a) ∧ (∀ k, k ≠ 2 → gi h' 446 k = gi h 446 k) ∧ h'.2.2 = h.2.2
theorem FrY.rfl' {h : pm_H} : FrY h h := ⟨rfl, fun _ _ _ => rfl, fun _ _ => rfl, rfl⟩
theorem FrY.trans {h h1 h2 : pm_H} (a : FrY h h1) (b : FrY h1 h2) : FrY h h2 := ⟨b.1.trans a.1, fun x h1 h2 => (b.2.1 x h1 h2).trans (a.2.1 x h1 h2), fun x h1 => (b.2.2.1 x h1).trans (a.2.2.1 x h1), b.2.2.2.trans a.2.2.2⟩
theorem FrY.la {h h' : pm_H} (f : FrY h h') (hL : La h) : La h' := ⟨f.1.trans hL.1, fun a k hx => by show h'.2.2.2.2 a k = _; rw [f.2.2.2]; exact hL.2 a k hx⟩
theorem La.tpr (hL : La h) : h.1[446]? = some (0, 11) ∧ gp h 446 1 = 447 ∧ h.1[447]? = some (1, 1000) := ⟨hL.k (by decide +kernel), hL.p (by decide +kernel) (by omega), hL.k (by decide +kernel)⟩
theorem r_layLoop {l : Int64} {Q : pm_H → Prop} : ∀ (n : Nat) (tx : List Nat) (h : pm_H), n ≤ 8 → La h → TxO tx → TxR h tx → gi h 446 2 = nI tx.length → (∀ h', FrY h h' → TxR h' (layF l n tx) → gi h' 446 2 = nI (layF l n tx).length → Q h') → Wp G (m_X12_lay, d + 1, 0, 0, fun v h1 => v = none ∧ Q h1) (0, 0) 3 [.ref 446, .long l, .null, .int (lshf n), .null] [] h
  | 0, tx, h, _, hL, hO, hT, h2, k => by
    refine x_X12_lay_3 ?_
    rw [if_pos (show lshf 0 < 0 by decide)]
    exact ⟨rfl, k h FrY.rfl' hT h2⟩
  | n + 1, tx, h, hn, hL, hO, hT, h2, k => by
    obtain ⟨t1, t2, t3⟩ := hL.tpr
    have len := hO.1
    have ih := fun tx' h' a b c e g => r_layLoop (l := l) (Q := Q) n tx' h' (by omega) a b c e g
    refine x_X12_lay_3 ?_
    rw [show lshf (n + 1) = nI (8 * n) from rfl, if_neg (nI_pos (by omega)), byR l n (by omega)]
    have b256 := byt_lt l (8 * n)
    have nx : lshf (n + 1) + (-8) = lshf n := lshf_s n (List.mem_range.mpr (by omega))
    rw [show lshf (n + 1) = nI (8 * n) from rfl] at nx
    have k : ∀ h', FrY h h' → TxR h' (layF l n (layB tx (byt l (8 * n)))) → gi h' 446 2 = nI (layF l n (layB tx (byt l (8 * n)))).length → Q h' := k
    generalize byt l (8 * n) = c at *
    rw [nx]
    have skip : layB tx c = tx → Wp G (m_X12_lay, d + 1, 0, 0, fun v h1 => v = none ∧ Q h1) (0, 0) 3 [.ref 446, .long l, .null, .int (lshf n), .null] [] h := fun e => by
      rw [e] at k
      exact ih tx h hL hO hT h2 k
    have goes : (c = 10 ∨ (32 ≤ c ∧ c ≤ 126)) → Wp G (m_X12_lay, d + 1, 0, 0, fun v h1 => v = none ∧ Q h1) (0, 0) 38 [.ref 446, .long l, .null, .int (nI (8 * n)), .int (nI c)] [] h := fun hc => by
      refine x_X12_lay_38 ⟨t1, ?_⟩
      rw [h2, t2, nx]
      by_cases c1 : tx.length < 1000
      · rw [if_neg (show ¬ (1000 : Int32) ≤ nI tx.length from nI_nlen (n := 1000) c1 (by decide)), cl_nI (show tx.length < 2 ^ 31 by omega)]
        refine ⟨1000, t3, vp_nI c1 (by decide), ?_⟩
        rintro _ rfl _ rfl
        have e2 : gi (si h 447 tx.length (nI c)) 446 2 = nI tx.length := (congrFun (pm_u_ne (gi h) tx.length (nI c) (show (446 : Nat) ≠ 447 by decide)) 2).trans h2
        rw [e2, show (1 : Int32) = nI 1 from rfl, nI_add]
        have el : layB tx c = tx ++ [c] := if_pos ⟨hc, c1⟩
        rw [el] at k
        have fr : FrY h (si (si h 447 tx.length (nI c)) 446 2 (nI (tx.length + 1))) := ⟨rfl, fun a h1 h2 => (pm_u_ne _ _ _ h1).trans (pm_u_ne _ _ _ h2), fun j hj => by rw [si_66, if_neg hj]; exact congrFun (pm_u_ne (gi h) tx.length (nI c) (show (446 : Nat) ≠ 447 by decide)) j, rfl⟩
        refine ih (tx ++ [c]) _ hL (by rw [← el]; exact TxO_layB hO) (fun j hj => ?_) ?_ (fun h' f t e => k h' (fr.trans f) t e)
        · rw [List.length_append, List.length_singleton] at hj
          rw [si_6n (by decide)]
          show pm_u (gi h) 447 tx.length (nI c) 447 j = _
          rw [pm_u_at, chA_app]
          unfold pm_ui
          by_cases q : j = tx.length
          · rw [if_pos q, if_neg (by omega), if_pos q]
          · rw [if_neg q, if_pos (by omega)]; exact hT j (by omega)
        · rw [si_66, if_pos rfl, List.length_append, List.length_singleton]
      · rw [if_pos (show (1000 : Int32) ≤ nI tx.length by rw [show tx.length = 1000 by omega]; decide)]
        exact skip (if_neg (fun q => c1 q.2))
    by_cases c1 : c = 10
    · rw [if_pos (show nI c = 10 by rw [c1]; rfl)]
      exact goes (Or.inl c1)
    · rw [if_neg (show ¬ nI c = 10 from fun q => c1 ((nI_inj (b := 10) (by omega) (by decide)).mp q))]
      by_cases c2 : c < 32
      · rw [if_pos (show nI c < 32 by rw [i_lt, nI_toInt (by omega)]; show _ < (32 : Int); omega)]
        exact skip (if_neg (fun q => by omega))
      · rw [if_neg (show ¬ nI c < 32 by rw [i_lt, nI_toInt (by omega)]; show ¬ _ < (32 : Int); omega)]
        by_cases c3 : 126 < c
        · rw [if_pos (show (126 : Int32) < nI c by rw [i_lt, nI_toInt (by omega)]; show (126 : Int) < _; omega)]
          exact skip (if_neg (fun q => by omega))
        · rw [if_neg (show ¬ (126 : Int32) < nI c by rw [i_lt, nI_toInt (by omega)]; show ¬ (126 : Int) < _; omega)]
          exact goes (by omega)
theorem r_lay {l : Int64} {tx : List Nat} {Q : pm_H → Prop} (hL : La h) (hO : TxO tx) (hT : TxR h tx) (h2 : gi h 446 2 = nI tx.length) (k : ∀ h', FrY h h' → TxR h' (layF l 8 tx) → gi h' 446 2 = nI (layF l 8 tx).length → Q h') : cv G (d + 1) m_X12_lay [.ref 446, .long l] h Q :=
  cv_wp rfl (Nat.le_of_ble_eq_true rfl) rfl (x_X12_lay (r_layLoop (l := l) 8 tx h (Nat.le_refl _) hL hO hT h2 k))
theorem InvR_T {h' : pm_H} {tx : List Nat} (i : InvR h s) (f : FrY h h') (hT : TxR h' tx) (h2 : gi h' 446 2 = nI tx.length) : InvR h' (stTx s tx) := by
  obtain ⟨i1, i2, i3, i5, i6, i7, i8, i9, i10, i11, i12⟩ := i
  have e : ∀ a, a ≠ 446 → a ≠ 447 → gi h' a = gi h a := f.2.1
  have ej : gj h' = gj h := by show h'.2.2.1 = _; rw [f.2.2.2]
  refine ⟨f.la i1, fun w hw => by rw [ej]; exact i2 w hw, ⟨hT, h2⟩, i5.same (e 452 (by decide) (by decide)) (e 453 (by decide) (by decide)) (by rw [ej]), fun t ht => (congrFun (e 460 (by decide) (by decide)) t).trans (i6 t ht), i7.of (e 455 (by decide) (by decide)), ?_, ⟨(f.2.2.1 18 (by decide)).trans i9.1, ?_⟩, ?_, (f.2.2.1 19 (by decide)).trans i11, ?_⟩
  · rw [e 460 (by decide) (by decide), e 458 (by decide) (by decide)]; exact i8
  · rw [e 460 (by decide) (by decide), e 458 (by decide) (by decide)]; exact i9.2
  · rw [e 458 (by decide) (by decide)]; exact i10
  · intro m hm
    rw [e 460 (by decide) (by decide), e 458 (by decide) (by decide), e 459 (by decide) (by decide)]
    exact i12 m hm
theorem FrY.fb {h h' : pm_H} (f : FrY h h') : FrB h h' := ⟨f.1, fun a ha => f.2.1 a (by omega) (by omega), fun a _ => by show h'.2.2.1 a = _; rw [f.2.2.2], by show h'.2.2.2.1 = _; rw [f.2.2.2], by show h'.2.2.2.2 = _; rw [f.2.2.2]⟩
theorem q_feed {a b c : Int64} {Q : Int32 → pm_H → Prop} (i : InvR h s) (ok : okSta s w) (k : ∀ h', InvR h' (nFeed s a b c).2 → FrB h h' → Q (nFeed s a b c).1 h') : ci G (d + 2) m_X12_feed [.ref 446, .long a, .long b, .long c] h Q := by
  have o1 := TxO_layF (l := a) 8 _ ok.tx
  have o2 := TxO_layF (l := b) 8 _ o1
  refine ci_wp rfl (Nat.le_of_ble_eq_true rfl) rfl (x_X12_feed ⟨i.la.md.1, ?_⟩)
  rintro h0 e0
  have i0 : InvR h0 s := by rw [e0]; exact i.th
  have f0 : FrB h h0 := by rw [e0]; exact FrB.si (by decide)
  clear e0
  refine r_lay (d := d) i0.la ok.tx i0.tx.1 i0.tx.2 (fun h1 f1 t1 e1 => ?_)
  have l1 := f1.la i0.la
  refine ⟨l1.md.1, r_lay (d := d) l1 o1 t1 e1 (fun h2 f2 t2 e2 => ?_)⟩
  have l2 := f2.la l1
  refine ⟨l2.md.1, r_lay (d := d) l2 o2 t2 e2 (fun h3 f3 t3 e3 => ?_)⟩
  have l3 := f3.la l2
  have f9 := (f1.trans f2).trans f3
  rw [e3]
  exact ⟨l3.md.1, _, rfl, k h3 (InvR_T i0 f9 t3 e3) (f0.trans f9.fb)⟩
end FED
