/-! the class's TAPE: TOKEN by TOKEN -/
def TxO (tx : List Nat) : Prop := tx.length ≤ 1000 ∧ ∀ c ∈ tx, c = 10 ∨ (32 ≤ c ∧ c ≤ 126)
def TxC (h : pm_H) (tx : List Nat) : Prop := gi h 1 1 = nI tx.length ∧ ∀ j, j < tx.length → gi h 2 j = nI (chA tx j)
/-- the TAPE's own fields alone move -/
def FrT (h h' : pm_H) : Prop := h'.1 = h.1 ∧ (∀ a, a ≠ 1 → gi h' a = gi h a) ∧ gi h' 1 1 = gi h 1 1 ∧ (∀ a, a ≠ 1 → gj h' a = gj h a) ∧ gf h' = gf h ∧ ∀ a k, ¬ (a = 1 ∧ k = 5) → gp h' a k = gp h a k
theorem FrT.rfl' {h : pm_H} : FrT h h := ⟨rfl, fun _ _ => rfl, rfl, fun _ _ => rfl, rfl, fun _ _ _ => rfl⟩
theorem FrT.trans {h h1 h2 : pm_H} (a : FrT h h1) (b : FrT h1 h2) : FrT h h2 := ⟨b.1.trans a.1, fun x hx => (b.2.1 x hx).trans (a.2.1 x hx), b.2.2.1.trans a.2.2.1, fun x hx => (b.2.2.2.1 x hx).trans (a.2.2.2.1 x hx), b.2.2.2.2.1.trans a.2.2.2.2.1, fun x k hx => (b.2.2.2.2.2 x k hx).trans (a.2.2.2.2.2 x k hx)⟩
theorem FrT.la {h h' : pm_H} (f : FrT h h') (hL : La h) : La h' := ⟨f.1.trans hL.1, fun a k hx => (f.2.2.2.2.2 a k hx).trans (hL.2 a k hx)⟩
theorem FrT.tx {h h' : pm_H} {tx : List Nat} (f : FrT h h') (hT : TxC h tx) : TxC h' tx := ⟨f.2.2.1.trans hT.1, fun j hj => (congrFun (f.2.1 2 (by decide)) j).trans (hT.2 j hj)⟩
theorem FrT.si {h : pm_H} {k : Nat} {v : Int32} (hk : k ≠ 1) : FrT h (si h 1 k v) := ⟨rfl, fun a ha => pm_u_ne _ _ _ ha, by
  show pm_u (gi h) 1 k v 1 1 = _
  rw [pm_u_at]; exact if_neg (fun q => hk q.symm), fun _ _ => rfl, rfl, fun _ _ _ => rfl⟩
theorem FrT.sl {h : pm_H} {k : Nat} {v : Int64} : FrT h (sl h 1 k v) := ⟨rfl, fun _ _ => rfl, rfl, fun a ha => pm_u_ne _ _ _ ha, rfl, fun _ _ _ => rfl⟩
theorem FrT.sp {h : pm_H} {v : Nat} : FrT h (sp h 1 5 v) := ⟨rfl, fun _ _ => rfl, rfl, fun _ _ => rfl, rfl, fun a k hx => by
  show pm_u (gp h) 1 5 v a k = _
  unfold pm_u
  by_cases c : a = 1
  · rw [if_pos c, if_neg (fun q => hx ⟨c, q⟩)]
  · rw [if_neg c]⟩
theorem gi_si {h : pm_H} {a k b j : Nat} {v : Int32} : gi (si h a k v) b j = if b = a then (if j = k then v else gi h b j) else gi h b j := rfl
def FldC (h : pm_H) (t : Tk) : Prop := gi h 1 3 = nI t.2.1 ∧ gi h 1 4 = nI t.1 ∧ gp h 1 5 = 1000 + (if t.2.1 = 1 then wix t.2.2 else 0) ∧ (t.2.1 = 1 → gj h 1 6 = lN (e32 t.2.2)) ∧ gi h 1 7 = (if t.2.1 = 2 then nI (nmv t.2.2) else -1) ∧ gi h 1 8 = (if t.2.1 = 3 then nI (t.2.2.headD 0) else -1)
def CurC (h : pm_H) (tx : List Nat) (ts : List Tk) : Prop := ∃ t r a, ts = t :: r ∧ FldC h t ∧ gi h 1 2 = nI a ∧ a ≤ tx.length ∧ (t.2.1 ≠ 0 → r = TT tx a)
theorem La.tap {h : pm_H} (hL : La h) : h.1[1]? = some (0, 7) ∧ gp h 1 0 = 2 ∧ h.1[2]? = some (3, 1000) := ⟨hL.k (by decide +kernel), hL.p (by decide +kernel) (by omega), hL.k (by decide +kernel)⟩
theorem TxO.ch {tx : List Nat} (h : TxO tx) {a : Nat} (ha : a < tx.length) : chA tx a = 10 ∨ (32 ≤ chA tx a ∧ chA tx a ≤ 126) := by
  have e : chA tx a = tx[a] := by unfold chA; simp [List.getD_eq_getElem?_getD, ha]
  rw [e]; exact h.2 _ (List.getElem_mem ha)
section TAP
variable {G : pm_G} {d : Nat} {h : pm_H} {tx : List Nat}
theorem s_signAt {a : Nat} {Q : Int32 → pm_H → Prop} (hL : La h) (hO : TxO tx) (hT : TxC h tx) (ha : a < 2 ^ 31) (k : Q (if a < tx.length then nI (chA tx a) else -1) h) : ci G (d + 1) m_X7_signAt [.ref 1, .int (nI a)] h Q := by
  obtain ⟨t0, t1, t2⟩ := hL.tap
  have l1000 := hO.1
  refine ci_wp rfl (Nat.le_of_ble_eq_true rfl) rfl (x_X7_signAt ?_)
  rw [if_neg (nI_pos ha), hT.1, t1]
  refine ⟨t0, ?_⟩
  by_cases c : a < tx.length
  · rw [if_neg (show ¬ nI tx.length ≤ nI a from nI_nlen c (by omega))]
    rw [if_pos c, ← hT.2 a c] at k
    refine ⟨1000, t2, ?_⟩
    rw [if_neg (show ¬ Int32.ofNat 1000 ≤ nI a from nI_nlen (by omega) (by decide)), cl_nI ha]
    exact ⟨vp_nI (by omega) (by decide), _, rfl, k⟩
  · rw [if_pos (show nI tx.length ≤ nI a by rw [i_le, nI_toInt (by omega), nI_toInt ha]; omega)]
    rw [if_neg c] at k
    exact ⟨_, rfl, k⟩
def bwn (lo hi c : Nat) : Bool := decide (lo ≤ c) && decide (c ≤ hi)
theorem s_isLetter {c : Nat} {Q : Int32 → pm_H → Prop} (hc : c < 2 ^ 31) (k : Q (b2i (bwn 97 122 c)) h) : ci G (d + 1) m_X7_isLetter [.int (nI c)] h Q := by
  refine ci_wp rfl (Nat.le_of_ble_eq_true rfl) rfl (x_X7_isLetter ?_)
  unfold bwn at k
  by_cases c1 : 97 ≤ c
  · rw [if_neg (show ¬ nI c < 97 from fun q => by have := (nI_ltI hc (show 97 < 2 ^ 31 by decide)).mp q; omega)]
    rw [decide_eq_true c1, Bool.true_and] at k
    by_cases c2 : c ≤ 122
    · rw [if_neg (show ¬ (122 : Int32) < nI c from fun q => by have := (nI_ltI (show 122 < 2 ^ 31 by decide) hc).mp q; omega)]
      rw [decide_eq_true c2] at k
      exact ⟨_, rfl, k⟩
    · rw [if_pos (show (122 : Int32) < nI c from (nI_ltI (show 122 < 2 ^ 31 by decide) hc).mpr (by omega))]
      rw [decide_eq_false c2] at k
      exact ⟨_, rfl, k⟩
  · rw [if_pos (show nI c < 97 from (nI_ltI hc (show 97 < 2 ^ 31 by decide)).mpr (by omega))]
    rw [decide_eq_false c1, Bool.false_and] at k
    exact ⟨_, rfl, k⟩
theorem s_isDigit {c : Nat} {Q : Int32 → pm_H → Prop} (hc : c < 2 ^ 31) (k : Q (b2i (bwn 48 57 c)) h) : ci G (d + 1) m_X7_isDigit [.int (nI c)] h Q := by
  refine ci_wp rfl (Nat.le_of_ble_eq_true rfl) rfl (x_X7_isDigit ?_)
  unfold bwn at k
  by_cases c1 : 48 ≤ c
  · rw [if_neg (show ¬ nI c < 48 from fun q => by have := (nI_ltI hc (show 48 < 2 ^ 31 by decide)).mp q; omega)]
    rw [decide_eq_true c1, Bool.true_and] at k
    by_cases c2 : c ≤ 57
    · rw [if_neg (show ¬ (57 : Int32) < nI c from fun q => by have := (nI_ltI (show 57 < 2 ^ 31 by decide) hc).mp q; omega)]
      rw [decide_eq_true c2] at k
      exact ⟨_, rfl, k⟩
    · rw [if_pos (show (57 : Int32) < nI c from (nI_ltI (show 57 < 2 ^ 31 by decide) hc).mpr (by omega))]
      rw [decide_eq_false c2] at k
      exact ⟨_, rfl, k⟩
  · rw [if_pos (show nI c < 48 from (nI_ltI hc (show 48 < 2 ^ 31 by decide)).mpr (by omega))]
    rw [decide_eq_false c1, Bool.false_and] at k
    exact ⟨_, rfl, k⟩
def Tst (h : pm_H) (at_ pl : Int32) (w : Nat) (L : Int64) (nu sg : Int32) : Prop := gi h 1 2 = at_ ∧ gi h 1 4 = pl ∧ gp h 1 5 = w ∧ gj h 1 6 = L ∧ gi h 1 7 = nu ∧ gi h 1 8 = sg
theorem leA_in {a : Nat} (h : a < tx.length) : leA tx a = bwn 97 122 (chA tx a) := by unfold leA bwn; rw [decide_eq_true h, Bool.true_and]
theorem diA_in {a : Nat} (h : a < tx.length) : diA tx a = bwn 48 57 (chA tx a) := by unfold diA bwn; rw [decide_eq_true h, Bool.true_and]
theorem leA_lt {a : Nat} (h : leA tx a = true) : a < tx.length ∧ 97 ≤ chA tx a ∧ chA tx a ≤ 122 := by
  unfold leA at h
  rw [Bool.and_eq_true, Bool.and_eq_true, decide_eq_true_iff, decide_eq_true_iff, decide_eq_true_iff] at h
  exact h
theorem diA_lt {a : Nat} (h : diA tx a = true) : a < tx.length ∧ 48 ≤ chA tx a ∧ chA tx a ≤ 57 := by
  unfold diA at h
  rw [Bool.and_eq_true, Bool.and_eq_true, decide_eq_true_iff, decide_eq_true_iff, decide_eq_true_iff] at h
  exact h
theorem s_withLetter {v c : Nat} {Q : Int64 → pm_H → Prop} (h1 : 97 ≤ c) (h2 : c ≤ 122) (k : Q (lN (v * 32 + (c - 96))) h) : cl G (d + 1) m_X9_withLetter [.long (lN v), .int (nI c)] h Q := by
  refine cl_wp rfl (Nat.le_of_ble_eq_true rfl) rfl (x_X9_withLetter ?_)
  rw [show (97 : Int32) = nI 97 from rfl, pk_sub h1, nI_1, nI_l (by omega), show (32 : Int64) = lN 32 from rfl, lN_mul, lN_add, show c - 97 + 1 = c - 96 by omega]
  exact ⟨_, rfl, k⟩
theorem e32_s {l : List Nat} {c : Nat} : e32 (l ++ [c]) = e32 l * 32 + (c - 96) := by unfold e32; rw [List.foldl_append]; rfl
theorem e37_s {l : List Nat} {c : Nat} : e37 (l ++ [c]) = 37 * e37 l + (c - 96) := by unfold e37; rw [List.foldl_append]; rfl
theorem nmv_s {l : List Nat} {c : Nat} : nmv (l ++ [c]) = 10 * nmv l + (c - 48) := by unfold nmv; rw [List.foldl_append]; rfl
theorem subL_ltr {b e : Nat} (h : ∀ j, b ≤ j → j < e → leA tx j = true) : ltr (subL tx b e) := by
  intro c hc
  unfold subL at hc
  rw [List.mem_map] at hc
  obtain ⟨i, hi, rfl⟩ := hc
  rw [List.mem_range] at hi
  exact (leA_lt (h (b + i) (by omega) (by omega))).2
/-- which word it is -/
theorem s_of {l : List Nat} {Q : Nat → pm_H → Prop} (hl : ltr l) (hl8 : l.length ≤ 8) (k : Q (1000 + wix l) h) : cp G (d + 1) m_X9_of [.long (lN (e32 l))] h Q := by
  refine cp_wp rfl (Nat.le_of_ble_eq_true rfl) rfl (x_X9_of ?_)
  have cmp : ∀ i, i < 22 → (lg_cmp (lN (e32 (wdl.getD i []))) (lN (e32 l)) = 0 ↔ wdl.getD i [] = l) := by
    intro i hi
    obtain ⟨-, -, w8, wl⟩ := wdl_ok i (List.mem_range.mpr hi)
    have a := e32_lt (l := wdl.getD i []) wl w8
    have b := e32_lt hl hl8
    rw [(lcmp_e (by omega) (by omega)).1]
    exact ⟨fun q => e32_inj wl hl q, fun q => by rw [q]⟩
  have key := up_to (P := fun n => fnd (fun i => decide (wdl.getD i [] = l)) n = none → Wp G (m_X9_of, d + 1, 0, 0, fun v h1 => ∃ r, v = some (.ref r) ∧ Q r h1) (0, 0) 10 [.long (lN (e32 l)), .null, .ref 1100, .int 22, .int (nI n), .null] [] h) 22 (fun n hn ih => ?_) ?_
  · exact key rfl
  · intro e
    refine x_X9_of_10 ?_
    rw [if_neg (li_no 22 22 rfl hn (by decide)), cl_nI (show n < 2 ^ 31 by omega), nI_1]
    obtain ⟨w1, w2, w3, w4⟩ := wdl_ok n (List.mem_range.mpr hn)
    have g : pm_wd[n]? = some (pm_wd.getD n ("", 0, 0, 0, 0)) := by
      rw [List.getD_eq_getElem?_getD, List.getElem?_eq_getElem (by rw [w1]; exact hn)]; rfl
    refine ⟨vp_nI (by omega) (by decide), n, _, g, rfl, ?_⟩
    rw [w2]
    by_cases c : wdl.getD n [] = l
    · rw [if_pos ((cmp n hn).mpr c)]
      have f := fnd_at (m := 22) e (decide_eq_true c) hn
      unfold wix at k
      rw [f] at k
      exact ⟨_, rfl, k⟩
    · rw [if_neg (fun q => c ((cmp n hn).mp q))]
      exact ih (fnd_no e (decide_eq_false c))
  · intro e
    refine x_X9_of_10 ?_
    rw [if_pos (li_yes 22 22 rfl)]
    unfold wix at k
    rw [e] at k
    exact ⟨_, rfl, k⟩
theorem s_readWord {b : Nat} {Q : pm_H → Prop} (hL : La h) (hO : TxO tx) (hT : TxC h tx) (hb : leA tx b = true) (hS : Tst h (nI b) (nI b) 1000 (lN 0) (-1) (-1)) (k : ∀ h', FrT h h' → FldC h' (tkA tx b).1 → gi h' 1 2 = nI (tkA tx b).2 → Q h') : cv G (d + 2) m_X7_readWord [.ref 1] h Q := by
  have l1000 := hO.1
  obtain ⟨b1, -, -⟩ := leA_lt hb
  obtain ⟨r1, r2, r3, r4⟩ := run_ok (p := leA tx) (tx.length - b) b
  obtain ⟨r5, r6⟩ := run_stop (p := leA tx) (L := tx.length) (a := b) le_out (by omega)
  have etk : tkA tx b = ((b, if lE tx b - b ≤ 8 then 1 else 4, subL tx b (lE tx b)), lE tx b) := if_pos hb
  rw [etk] at k
  have r1 : b ≤ lE tx b := r1
  have r3 : ∀ j, b ≤ j → j < lE tx b → leA tx j = true := r3
  have r5 : lE tx b ≤ tx.length := r5
  have r6 : leA tx (lE tx b) = false := r6
  generalize lE tx b = e at *
  refine cv_wp rfl (Nat.le_of_ble_eq_true rfl) rfl ?_
  have key := up_to (P := fun j => ∀ h1, FrT h h1 → Tst h1 (nI (b + j)) (nI b) 1000 (lN (e32 (subL tx b (b + j)))) (-1) (-1) → Wp G (m_X7_readWord, d + 2, 0, 0, fun v h1 => v = none ∧ Q h1) (0, 0) 0 [.ref 1] [] h1) (e - b) (fun j hj ih => ?_) ?_
  · exact key h FrT.rfl' (by rw [Nat.add_zero, subL_0]; exact hS)
  · intro h1 hF hS1
    have hL1 := hF.la hL
    have hT1 := hF.tx hT
    have lj := r3 (b + j) (by omega) (by omega)
    obtain ⟨lj1, lj2, lj3⟩ := leA_lt lj
    refine x_X7_readWord ⟨hL1.tap.1, ?_⟩
    rw [hT1.1, hS1.1, if_neg (show ¬ nI tx.length ≤ nI (b + j) from nI_nlen lj1 (by omega))]
    refine s_signAt (d := d) hL1 hO hT1 (by omega) ?_
    rw [if_pos lj1]
    refine s_isLetter (d := d) (by omega) ?_
    rw [← leA_in lj1, lj, if_neg (show ¬ b2i true = 0 by decide)]
    refine ⟨hL1.tap.1, ?_⟩
    rw [hS1.1]
    refine s_signAt (d := d) hL1 hO hT1 (by omega) ?_
    rw [if_pos lj1, hS1.2.2.2.1]
    refine s_withLetter (d := d) lj2 lj3 ⟨hL1.tap.1, ?_⟩
    rintro _ rfl _ rfl
    rw [show gi (sl h1 1 6 (lN (e32 (subL tx b (b + j)) * 32 + (chA tx (b + j) - 96)))) 1 2 = nI (b + j) from hS1.1, nI_1]
    refine ih _ (hF.trans (FrT.sl.trans (FrT.si (by decide)))) ⟨rfl, hS1.2.1, hS1.2.2.1, ?_, hS1.2.2.2.2.1, hS1.2.2.2.2.2⟩
    rw [show b + (j + 1) = b + j + 1 by omega, subL_s (by omega), e32_s]
    rfl
  · intro h1 hF hS1
    have hL1 := hF.la hL
    have hT1 := hF.tx hT
    rw [show b + (e - b) = e by omega] at hS1
    have to57 : Wp G (m_X7_readWord, d + 2, 0, 0, fun v h1 => v = none ∧ Q h1) (0, 0) 57 [.ref 1] [] h1 := by
      refine x_X7_readWord_57 ⟨hL1.tap.1, ?_⟩
      rw [hS1.1, hS1.2.1, pk_sub r1]
      by_cases c : e - b ≤ 8
      · rw [if_pos (show nI (e - b) ≤ 8 from (nI_leI (b := 8) (by omega) (by decide)).mpr c)]
        rintro _ rfl
        rw [if_pos (show gi (si h1 1 3 1) 1 3 = 1 from rfl), show gj (si h1 1 3 1) 1 6 = lN (e32 (subL tx b e)) from hS1.2.2.2.1]
        refine s_of (d := d) (subL_ltr r3) (by rw [subL_len]; exact c) ⟨hL1.tap.1, ?_⟩
        rintro _ rfl
        refine ⟨rfl, k _ (hF.trans ((FrT.si (by decide)).trans FrT.sp)) ?_ hS1.1⟩
        rw [if_pos c]
        exact ⟨rfl, hS1.2.1, rfl, fun _ => hS1.2.2.2.1, hS1.2.2.2.2.1, hS1.2.2.2.2.2⟩
      · rw [if_neg (show ¬ nI (e - b) ≤ 8 from fun q => c ((nI_leI (b := 8) (by omega) (by decide)).mp q))]
        rintro _ rfl
        rw [if_neg (show ¬ gi (si h1 1 3 4) 1 3 = 1 from show ¬ (4 : Int32) = 1 by decide)]
        rintro _ rfl
        refine ⟨rfl, k _ (hF.trans ((FrT.si (by decide)).trans FrT.sp)) ?_ hS1.1⟩
        rw [if_neg c]
        exact ⟨rfl, hS1.2.1, rfl, fun q => absurd (show (4 : Nat) = 1 from q) (by decide), hS1.2.2.2.2.1, hS1.2.2.2.2.2⟩
    refine x_X7_readWord ⟨hL1.tap.1, ?_⟩
    rw [hT1.1, hS1.1]
    by_cases c : e < tx.length
    · rw [if_neg (show ¬ nI tx.length ≤ nI e from nI_nlen c (by omega))]
      refine s_signAt (d := d) hL1 hO hT1 (by omega) ?_
      rw [if_pos c]
      have ch := hO.ch c
      refine s_isLetter (d := d) (by omega) ?_
      rw [← leA_in c, r6, if_pos (show b2i false = 0 from rfl)]
      exact to57
    · rw [if_pos (show nI tx.length ≤ nI e by rw [i_le, nI_toInt (by omega), nI_toInt (by omega)]; omega)]
      exact to57
/-- a number's digits, wrapping where they are too many -/
def nmI (l : List Nat) : Int32 := l.foldl (fun a c => ((a * 10) + nI c) - 48) 0
theorem nmI_s {l : List Nat} {c : Nat} : nmI (l ++ [c]) = ((nmI l * 10) + nI c) - 48 := by unfold nmI; rw [List.foldl_append]; rfl
theorem nmI_v : ∀ l : List Nat, (∀ c ∈ l, 48 ≤ c ∧ c ≤ 57) → nmI l.reverse = nI (nmv l.reverse)
  | [], _ => rfl
  | c :: r, h => by
    have ih := nmI_v r (fun x hx => h x (List.mem_cons_of_mem _ hx))
    have hc := h c List.mem_cons_self
    rw [List.reverse_cons, nmI_s, nmv_s, ih, show (10 : Int32) = nI 10 from rfl, pk_mul, nI_add, show (48 : Int32) = nI 48 from rfl, pk_sub (by omega)]
    congr 1
    omega
theorem subL_dig {b e : Nat} (h : ∀ j, b ≤ j → j < e → diA tx j = true) : ∀ c ∈ subL tx b e, 48 ≤ c ∧ c ≤ 57 := by
  intro c hc
  unfold subL at hc
  rw [List.mem_map] at hc
  obtain ⟨i, hi, rfl⟩ := hc
  rw [List.mem_range] at hi
  exact (diA_lt (h (b + i) (by omega) (by omega))).2
theorem nmI_nmv {l : List Nat} (h : ∀ c ∈ l, 48 ≤ c ∧ c ≤ 57) : nmI l = nI (nmv l) := by
  have := nmI_v l.reverse (fun c hc => h c (List.mem_reverse.mp hc))
  rwa [List.reverse_reverse] at this
theorem s_readNumber {b : Nat} {Q : pm_H → Prop} (hL : La h) (hO : TxO tx) (hT : TxC h tx) (hl : leA tx b = false) (hb : diA tx b = true) (hS : Tst h (nI b) (nI b) 1000 (lN 0) (-1) (-1)) (k : ∀ h', FrT h h' → FldC h' (tkA tx b).1 → gi h' 1 2 = nI (tkA tx b).2 → Q h') : cv G (d + 2) m_X7_readNumber [.ref 1] h Q := by
  have l1000 := hO.1
  obtain ⟨b1, -, -⟩ := diA_lt hb
  obtain ⟨r1, r2, r3, r4⟩ := run_ok (p := diA tx) (tx.length - b) b
  obtain ⟨r5, r6⟩ := run_stop (p := diA tx) (L := tx.length) (a := b) di_out (by omega)
  have etk : tkA tx b = ((b, if dE tx b - b ≤ 4 then 2 else 4, subL tx b (dE tx b)), dE tx b) := by unfold tkA; rw [if_neg (by rw [hl]; decide), if_pos hb]
  rw [etk] at k
  have r1 : b ≤ dE tx b := r1
  have r3 : ∀ j, b ≤ j → j < dE tx b → diA tx j = true := r3
  have r5 : dE tx b ≤ tx.length := r5
  have r6 : diA tx (dE tx b) = false := r6
  generalize dE tx b = e at *
  refine cv_wp rfl (Nat.le_of_ble_eq_true rfl) rfl (x_X7_readNumber ?_)
  have key := up_to (P := fun j => ∀ h1, FrT h h1 → Tst h1 (nI (b + j)) (nI b) 1000 (lN 0) (-1) (-1) → Wp G (m_X7_readNumber, d + 2, 0, 0, fun v h1 => v = none ∧ Q h1) (0, 0) 2 [.ref 1, .int (nmI (subL tx b (b + j)))] [] h1) (e - b) (fun j hj ih => ?_) ?_
  · have := key h FrT.rfl' hS
    rw [show b + 0 = b from rfl, subL_0] at this
    exact this
  · intro h1 hF hS1
    have hL1 := hF.la hL
    have hT1 := hF.tx hT
    have lj := r3 (b + j) (by omega) (by omega)
    obtain ⟨lj1, lj2, lj3⟩ := diA_lt lj
    refine x_X7_readNumber_2 ⟨hL1.tap.1, ?_⟩
    rw [hT1.1, hS1.1, if_neg (show ¬ nI tx.length ≤ nI (b + j) from nI_nlen lj1 (by omega))]
    refine s_signAt (d := d) hL1 hO hT1 (by omega) ?_
    rw [if_pos lj1]
    refine s_isDigit (d := d) (by omega) ?_
    rw [← diA_in lj1, lj, if_neg (show ¬ b2i true = 0 by decide)]
    refine ⟨hL1.tap.1, ?_⟩
    rw [hS1.1]
    refine s_signAt (d := d) hL1 hO hT1 (by omega) ⟨hL1.tap.1, ?_⟩
    rw [if_pos lj1]
    rintro _ rfl
    rw [hS1.1, nI_1]
    have nx := ih (si h1 1 2 (nI (b + (j + 1)))) (hF.trans (FrT.si (by decide))) ⟨rfl, hS1.2.1, hS1.2.2.1, hS1.2.2.2.1, hS1.2.2.2.2.1, hS1.2.2.2.2.2⟩
    rw [show b + (j + 1) = b + j + 1 by omega, subL_s (by omega), nmI_s] at nx
    exact nx
  · intro h1 hF hS1
    have hL1 := hF.la hL
    have hT1 := hF.tx hT
    rw [show b + (e - b) = e by omega] at hS1 ⊢
    have to57 : Wp G (m_X7_readNumber, d + 2, 0, 0, fun v h1 => v = none ∧ Q h1) (0, 0) 57 [.ref 1, .int (nmI (subL tx b e))] [] h1 := by
      refine x_X7_readNumber_57 ⟨hL1.tap.1, ?_⟩
      rw [hS1.1, hS1.2.1, pk_sub r1]
      by_cases c : e - b ≤ 4
      · rw [if_pos (show nI (e - b) ≤ 4 from (nI_leI (b := 4) (by omega) (by decide)).mpr c)]
        rintro _ rfl
        rw [if_pos (show gi (si h1 1 3 2) 1 3 = 2 from rfl), nmI_nmv (subL_dig r3)]
        rintro _ rfl
        refine ⟨rfl, k _ (hF.trans ((FrT.si (by decide)).trans (FrT.si (by decide)))) ?_ hS1.1⟩
        rw [if_pos c]
        exact ⟨rfl, hS1.2.1, hS1.2.2.1, fun q => absurd (show (2 : Nat) = 1 from q) (by decide), rfl, hS1.2.2.2.2.2⟩
      · rw [if_neg (show ¬ nI (e - b) ≤ 4 from fun q => c ((nI_leI (b := 4) (by omega) (by decide)).mp q))]
        rintro _ rfl
        rw [if_neg (show ¬ gi (si h1 1 3 4) 1 3 = 2 from show ¬ (4 : Int32) = 2 by decide)]
        rintro _ rfl
        refine ⟨rfl, k _ (hF.trans ((FrT.si (by decide)).trans (FrT.si (by decide)))) ?_ hS1.1⟩
        rw [if_neg c]
        exact ⟨rfl, hS1.2.1, hS1.2.2.1, fun q => absurd (show (4 : Nat) = 1 from q) (by decide), rfl, hS1.2.2.2.2.2⟩
    refine x_X7_readNumber_2 ⟨hL1.tap.1, ?_⟩
    rw [hT1.1, hS1.1]
    by_cases c : e < tx.length
    · rw [if_neg (show ¬ nI tx.length ≤ nI e from nI_nlen c (by omega))]
      refine s_signAt (d := d) hL1 hO hT1 (by omega) ?_
      rw [if_pos c]
      have ch := hO.ch c
      refine s_isDigit (d := d) (by omega) ?_
      rw [← diA_in c, r6, if_pos (show b2i false = 0 from rfl)]
      exact to57
    · rw [if_pos (show nI tx.length ≤ nI e by rw [i_le, nI_toInt (by omega), nI_toInt (by omega)]; omega)]
      exact to57
theorem s_readSign {b : Nat} {Q : pm_H → Prop} (hL : La h) (hb : b < tx.length) (hc : chA tx b < 2 ^ 31) (hl : leA tx b = false) (hd : diA tx b = false) (hS : Tst h (nI b) (nI b) 1000 (lN 0) (-1) (-1)) (k : ∀ h', FrT h h' → FldC h' (tkA tx b).1 → gi h' 1 2 = nI (tkA tx b).2 → Q h') : cv G (d + 1) m_X7_readSign [.ref 1, .int (nI (chA tx b))] h Q := by
  have etk : tkA tx b = ((b, if sgnB (chA tx b) = true then 3 else 4, [chA tx b]), b + 1) := by unfold tkA; rw [if_neg (by rw [hl]; decide), if_neg (by rw [hd]; decide)]
  rw [etk] at k
  refine cv_wp rfl (Nat.le_of_ble_eq_true rfl) rfl (x_X7_readSign ⟨hL.tap.1, ?_⟩)
  rintro _ rfl
  rw [hS.1, nI_1]
  have hL1 : La (si h 1 2 (nI (b + 1))) := (FrT.si (by decide)).la hL
  have eq : ∀ j, j < 200 → (nI (chA tx b) = nI j ↔ chA tx b = j) := fun j hj => nI_inj hc (by omega)
  have yes : sgnB (chA tx b) = true → Wp G (m_X7_readSign, d + 1, 0, 0, fun v h1 => v = none ∧ Q h1) (0, 0) 58 [.ref 1, .int (nI (chA tx b)), .null] [] (si h 1 2 (nI (b + 1))) := by
    intro z
    rw [if_pos z] at k
    refine x_X7_readSign_58 ⟨hL1.tap.1, ?_⟩
    rintro _ rfl _ rfl
    exact ⟨rfl, k _ ((FrT.si (by decide)).trans ((FrT.si (by decide)).trans (FrT.si (by decide)))) ⟨rfl, hS.2.1, hS.2.2.1, fun q => absurd (show (3 : Nat) = 1 from q) (by decide), hS.2.2.2.2.1, rfl⟩ rfl⟩
  by_cases c1 : chA tx b = 40
  · rw [if_pos (show nI (chA tx b) = 40 from (eq 40 (by decide)).mpr c1)]; exact yes (by rw [c1]; decide)
  rw [if_neg (show ¬ nI (chA tx b) = 40 from fun q => c1 ((eq 40 (by decide)).mp q))]
  by_cases c2 : chA tx b = 41
  · rw [if_pos (show nI (chA tx b) = 41 from (eq 41 (by decide)).mpr c2)]; exact yes (by rw [c2]; decide)
  rw [if_neg (show ¬ nI (chA tx b) = 41 from fun q => c2 ((eq 41 (by decide)).mp q))]
  by_cases c3 : chA tx b = 60
  · rw [if_pos (show nI (chA tx b) = 60 from (eq 60 (by decide)).mpr c3)]; exact yes (by rw [c3]; decide)
  rw [if_neg (show ¬ nI (chA tx b) = 60 from fun q => c3 ((eq 60 (by decide)).mp q))]
  by_cases c4 : chA tx b = 61
  · rw [if_pos (show nI (chA tx b) = 61 from (eq 61 (by decide)).mpr c4)]; exact yes (by rw [c4]; decide)
  rw [if_neg (show ¬ nI (chA tx b) = 61 from fun q => c4 ((eq 61 (by decide)).mp q))]
  by_cases c5 : chA tx b = 43
  · rw [if_pos (show nI (chA tx b) = 43 from (eq 43 (by decide)).mpr c5)]; exact yes (by rw [c5]; decide)
  rw [if_neg (show ¬ nI (chA tx b) = 43 from fun q => c5 ((eq 43 (by decide)).mp q))]
  by_cases c6 : chA tx b = 45
  · rw [if_pos (show nI (chA tx b) = 45 from (eq 45 (by decide)).mpr c6)]; exact yes (by rw [c6]; decide)
  rw [if_neg (show ¬ nI (chA tx b) = 45 from fun q => c6 ((eq 45 (by decide)).mp q))]
  by_cases c7 : chA tx b = 42
  · rw [if_pos (show nI (chA tx b) = 42 from (eq 42 (by decide)).mpr c7)]; exact yes (by rw [c7]; decide)
  rw [if_neg (show ¬ nI (chA tx b) = 42 from fun q => c7 ((eq 42 (by decide)).mp q))]
  by_cases c8 : chA tx b = 59
  · rw [if_pos (show nI (chA tx b) = 59 from (eq 59 (by decide)).mpr c8)]; exact yes (by rw [c8]; decide)
  rw [if_neg (show ¬ nI (chA tx b) = 59 from fun q => c8 ((eq 59 (by decide)).mp q))]
  have no : sgnB (chA tx b) = false := by
    unfold sgnB
    simp only [List.contains_cons, List.contains_nil]
    simp [c1, c2, c3, c4, c5, c6, c7, c8]
  rintro _ rfl _ rfl
  rw [if_neg (by rw [no]; decide)] at k
  exact ⟨rfl, k _ ((FrT.si (by decide)).trans ((FrT.si (by decide)).trans (FrT.si (by decide)))) ⟨rfl, hS.2.1, hS.2.2.1, fun q => absurd (show (4 : Nat) = 1 from q) (by decide), hS.2.2.2.2.1, rfl⟩ rfl⟩
theorem s_next0 {a : Nat} {Q : pm_H → Prop} (hL : La h) (hO : TxO tx) (hT : TxC h tx) (ha : a ≤ tx.length) (hat : gi h 1 2 = nI a) (k : ∀ h', FrT h h' → CurC h' tx (TT tx a) → Q h') : cv G (d + 3) m_X7_next [.ref 1] h Q := by
  have l1000 := hO.1
  obtain ⟨r1, r2, r3, r4⟩ := run_ok (p := blA tx) (tx.length - a) a
  obtain ⟨r5, r6⟩ := run_stop (p := blA tx) (L := tx.length) (a := a) bl_out ha
  rw [TT_eq hO.1 ha] at k
  have r1 : a ≤ bE tx a := r1
  have r3 : ∀ j, a ≤ j → j < bE tx a → blA tx j = true := r3
  have r5 : bE tx a ≤ tx.length := r5
  have r6 : blA tx (bE tx a) = false := r6
  generalize bE tx a = b at *
  refine cv_wp rfl (Nat.le_of_ble_eq_true rfl) rfl ?_
  have key := up_to (P := fun j => ∀ h1, FrT h h1 → gi h1 1 2 = nI (a + j) → Wp G (m_X7_next, d + 3, 0, 0, fun v h1 => v = none ∧ Q h1) (0, 0) 0 [.ref 1, .null] [] h1) (b - a) (fun j hj ih => ?_) ?_
  · exact key h FrT.rfl' hat
  · intro h1 hF hat1
    have hL1 := hF.la hL
    have hT1 := hF.tx hT
    have lj := r3 (a + j) (by omega) (by omega)
    unfold blA at lj
    rw [Bool.and_eq_true, Bool.or_eq_true, decide_eq_true_iff, decide_eq_true_iff, decide_eq_true_iff] at lj
    refine x_X7_next ⟨hL1.tap.1, ?_⟩
    rw [hT1.1, hat1, if_neg (show ¬ nI tx.length ≤ nI (a + j) from nI_nlen lj.1 (by omega))]
    refine s_signAt (d := d + 1) hL1 hO hT1 (by omega) ?_
    rw [if_pos lj.1]
    have nx : Wp G (m_X7_next, d + 3, 0, 0, fun v h1 => v = none ∧ Q h1) (0, 0) 0 [.ref 1, .null] [] (si h1 1 2 (nI (a + j) + 1)) := by
      rw [nI_1]
      exact ih _ (hF.trans (FrT.si (by decide))) rfl
    by_cases c : chA tx (a + j) = 32
    · rw [if_pos (show nI (chA tx (a + j)) = 32 by rw [c]; rfl)]
      refine ⟨hL1.tap.1, ?_⟩
      rintro _ rfl
      rw [hat1]; exact nx
    · have c10 : chA tx (a + j) = 10 := lj.2.resolve_right c
      rw [if_neg (show ¬ nI (chA tx (a + j)) = 32 by rw [c10]; decide)]
      refine ⟨hL1.tap.1, ?_⟩
      rw [hat1]
      refine s_signAt (d := d + 1) hL1 hO hT1 (by omega) ?_
      rw [if_pos lj.1, if_pos (show nI (chA tx (a + j)) = 10 by rw [c10]; rfl)]
      refine ⟨hL1.tap.1, ?_⟩
      rintro _ rfl
      rw [hat1]; exact nx
  · intro h1 hF hat1
    have hL1 := hF.la hL
    have hT1 := hF.tx hT
    rw [show a + (b - a) = b by omega] at hat1
    have to50 : Wp G (m_X7_next, d + 3, 0, 0, fun v h1 => v = none ∧ Q h1) (0, 0) 50 [.ref 1, .null] [] h1 := by
      refine x_X7_next_50 ⟨hL1.tap.1, ?_⟩
      rintro _ rfl _ rfl _ rfl _ rfl _ rfl
      rw [hat1]
      have hF5 : FrT h1 (si (si (sl (sp (si h1 1 4 (nI b)) 1 5 1000) 1 6 0) 1 7 (-1)) 1 8 (-1)) := (FrT.si (by decide)).trans (FrT.sp.trans (FrT.sl.trans ((FrT.si (by decide)).trans (FrT.si (by decide)))))
      have hS5 : Tst (si (si (sl (sp (si h1 1 4 (nI b)) 1 5 1000) 1 6 0) 1 7 (-1)) 1 8 (-1)) (nI b) (nI b) 1000 (lN 0) (-1) (-1) := ⟨hat1, rfl, rfl, rfl, rfl, rfl⟩
      generalize si (si (sl (sp (si h1 1 4 (nI b)) 1 5 1000) 1 6 0) 1 7 (-1)) 1 8 (-1) = h5 at *
      have hL5 := hF5.la hL1
      have hT5 := hF5.tx hT1
      rw [hS5.1]
      refine s_signAt (d := d + 1) hL5 hO hT5 (by omega) ?_
      by_cases c : b < tx.length
      · rw [if_pos c]
        rw [if_pos c] at k
        have ch := hO.ch c
        have fin : ∀ h', FrT h5 h' → FldC h' (tkA tx b).1 → gi h' 1 2 = nI (tkA tx b).2 → Q h' := by
          intro h' f1 f2 f3
          exact k h' (hF.trans (hF5.trans f1)) ⟨_, _, _, rfl, f2, f3, (tkA_end c).2.1, fun _ => rfl⟩
        rw [if_neg (nI_nm1 (by omega))]
        refine s_isLetter (d := d + 1) (by omega) ?_
        rw [← leA_in c]
        by_cases c2 : leA tx b = true
        · rw [c2, if_neg (show ¬ b2i true = 0 by decide)]
          exact ⟨hL5.tap.1, s_readWord (d := d) hL5 hO hT5 c2 hS5 (fun h' a1 a2 a3 => ⟨rfl, fin h' a1 a2 a3⟩)⟩
        · have c2 : leA tx b = false := by simpa using c2
          rw [c2, if_pos (show b2i false = 0 from rfl)]
          refine s_isDigit (d := d + 1) (by omega) ?_
          rw [← diA_in c]
          by_cases c3 : diA tx b = true
          · rw [c3, if_neg (show ¬ b2i true = 0 by decide)]
            exact ⟨hL5.tap.1, s_readNumber (d := d) hL5 hO hT5 c2 c3 hS5 (fun h' a1 a2 a3 => ⟨rfl, fin h' a1 a2 a3⟩)⟩
          · have c3 : diA tx b = false := by simpa using c3
            rw [c3, if_pos (show b2i false = 0 from rfl)]
            exact ⟨hL5.tap.1, s_readSign (d := d + 1) hL5 c (by omega) c2 c3 hS5 (fun h' a1 a2 a3 => ⟨rfl, fin h' a1 a2 a3⟩)⟩
      · rw [if_neg c, if_pos rfl]
        rw [if_neg c] at k
        refine ⟨hL5.tap.1, ?_⟩
        rintro _ rfl
        have eb : b = tx.length := by omega
        exact ⟨rfl, k _ (hF.trans (hF5.trans (FrT.si (by decide)))) ⟨tkE tx, [], b, rfl, ⟨rfl, by rw [show (tkE tx).1 = b from eb.symm]; exact hS5.2.1, hS5.2.2.1, fun q => absurd (show (0 : Nat) = 1 from q) (by decide), hS5.2.2.2.2.1, hS5.2.2.2.2.2⟩, hS5.1, r5, fun q => absurd rfl q⟩⟩
    refine x_X7_next ⟨hL1.tap.1, ?_⟩
    rw [hT1.1, hat1]
    by_cases c : b < tx.length
    · rw [if_neg (show ¬ nI tx.length ≤ nI b from nI_nlen c (by omega))]
      have ch := hO.ch c
      unfold blA at r6
      rw [decide_eq_true c, Bool.true_and, Bool.or_eq_false_iff, decide_eq_false_iff_not, decide_eq_false_iff_not] at r6
      refine s_signAt (d := d + 1) hL1 hO hT1 (by omega) ?_
      rw [if_pos c, if_neg (show ¬ nI (chA tx b) = 32 from fun q => r6.2 ((nI_inj (b := 32) (by omega) (by decide)).mp q))]
      refine ⟨hL1.tap.1, ?_⟩
      rw [hat1]
      refine s_signAt (d := d + 1) hL1 hO hT1 (by omega) ?_
      rw [if_pos c, if_neg (show ¬ nI (chA tx b) = 10 from fun q => r6.1 ((nI_inj (b := 10) (by omega) (by decide)).mp q))]
      exact to50
    · rw [if_pos (show nI tx.length ≤ nI b by rw [i_le, nI_toInt (by omega), nI_toInt (by omega)]; omega)]
      exact to50
theorem s_next {t : Tk} {r : List Tk} {Q : pm_H → Prop} (hL : La h) (hO : TxO tx) (hT : TxC h tx) (hC : CurC h tx (t :: r)) (ht : t.2.1 ≠ 0) (k : ∀ h', FrT h h' → CurC h' tx r → Q h') : cv G (d + 3) m_X7_next [.ref 1] h Q := by
  obtain ⟨t', r', a, e, hf, hat, ha, hr⟩ := hC
  cases e
  have := hr ht
  subst this
  exact s_next0 hL hO hT ha hat k
theorem s_begin {Q : pm_H → Prop} (hL : La h) (hO : TxO tx) (hT : TxC h tx) (k : ∀ h', FrT h h' → CurC h' tx (TT tx 0) → Q h') : cv G (d + 4) m_X7_begin [.ref 1] h Q := by
  refine cv_wp rfl (Nat.le_of_ble_eq_true rfl) rfl (x_X7_begin ⟨hL.tap.1, ?_⟩)
  rintro _ rfl
  have hF : FrT h (si h 1 2 0) := FrT.si (by decide)
  exact s_next0 (d := d) (a := 0) (hF.la hL) hO (hF.tx hT) (Nat.zero_le _) rfl (fun h' a b => ⟨rfl, k h' (hF.trans a) b⟩)
end TAP
