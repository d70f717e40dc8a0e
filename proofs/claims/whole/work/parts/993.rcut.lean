/-! THE REFERENCE: all TOKENS at once -/
def TxR (h : pm_H) (tx : List Nat) : Prop := ∀ j, j < tx.length → gi h 447 j = nI (chA tx j)
/-- its TOKENS alone move -/
def FrK (h h' : pm_H) : Prop := h'.1 = h.1 ∧ (∀ a, a ≠ 446 → a ≠ 448 → a ≠ 449 → gi h' a = gi h a) ∧ (∀ k, k ≠ 2 → k ≠ 3 → k ≠ 7 → k ≠ 8 → gi h' 446 k = gi h 446 k) ∧ (∀ a, a ≠ 450 → gj h' a = gj h a) ∧ gf h' = gf h ∧ gp h' = gp h
theorem FrK.rfl' {h : pm_H} : FrK h h := ⟨rfl, fun _ _ _ _ => rfl, fun _ _ _ _ _ => rfl, fun _ _ => rfl, rfl, rfl⟩
theorem FrK.trans {h h1 h2 : pm_H} (a : FrK h h1) (b : FrK h1 h2) : FrK h h2 := ⟨b.1.trans a.1, fun x h1 h2 h3 => (b.2.1 x h1 h2 h3).trans (a.2.1 x h1 h2 h3), fun k h1 h2 h3 h4 => (b.2.2.1 k h1 h2 h3 h4).trans (a.2.2.1 k h1 h2 h3 h4), fun x hx => (b.2.2.2.1 x hx).trans (a.2.2.2.1 x hx), b.2.2.2.2.1.trans a.2.2.2.2.1, b.2.2.2.2.2.trans a.2.2.2.2.2⟩
theorem FrK.la {h h' : pm_H} (f : FrK h h') (hL : La h) : La h' := ⟨f.1.trans hL.1, fun a k hx => (congrFun (congrFun f.2.2.2.2.2 a) k).trans (hL.2 a k hx)⟩
theorem FrK.tx {h h' : pm_H} {tx : List Nat} (f : FrK h h') (hT : TxR h tx) : TxR h' tx := fun j hj => (congrFun (f.2.1 447 (by decide) (by decide) (by decide)) j).trans (hT j hj)
theorem FrK.wi {h : pm_H} {k : Nat} {v : Int32} (hk : k = 2 ∨ k = 3 ∨ k = 7 ∨ k = 8) : FrK h (si h 446 k v) := ⟨rfl, fun a h1 _ _ => pm_u_ne _ _ _ h1, fun j h1 h2 h3 h4 => by
  show pm_u (gi h) 446 k v 446 j = _
  rw [pm_u_at]; exact if_neg (by omega), fun _ _ => rfl, rfl, rfl⟩
theorem FrK.wr {h : pm_H} {a k : Nat} {v : Int32} (hk : a = 448 ∨ a = 449) : FrK h (si h a k v) := ⟨rfl, fun b h1 h2 h3 => pm_u_ne _ _ _ (by omega), fun j h1 h2 h3 h4 => by
  show pm_u (gi h) a k v 446 j = _
  rw [pm_u_ne _ _ _ (by omega)], fun _ _ => rfl, rfl, rfl⟩
theorem FrK.wl {h : pm_H} {k : Nat} {v : Int64} : FrK h (sl h 450 k v) := ⟨rfl, fun _ _ _ _ => rfl, fun _ _ _ _ _ => rfl, fun a ha => pm_u_ne _ _ _ ha, rfl, rfl⟩
def TokR (h : pm_H) (i : Nat) (t : Tk) : Prop := gi h 448 i = nI t.2.1 ∧ gi h 449 i = nI t.1 ∧ (t.2.1 = 1 → gj h 450 i = lN (e37 t.2.2)) ∧ (t.2.1 = 2 → gj h 450 i = lN (nmv t.2.2)) ∧ (t.2.1 = 3 → gj h 450 i = lN (t.2.2.headD 0))
def TkR (h : pm_H) (L : List Tk) : Prop := ∀ (i : Nat) (t : Tk), L[i]? = some t → TokR h i t
theorem La.tok {h : pm_H} (hL : La h) : gp h 446 1 = 447 ∧ gp h 446 4 = 448 ∧ gp h 446 5 = 449 ∧ gp h 446 6 = 450 ∧ h.1[447]? = some (1, 1000) ∧ h.1[448]? = some (1, 1002) ∧ h.1[449]? = some (1, 1002) ∧ h.1[450]? = some (2, 1002) :=
  ⟨hL.p (by decide +kernel) (by omega), hL.p (by decide +kernel) (by omega), hL.p (by decide +kernel) (by omega), hL.p (by decide +kernel) (by omega), hL.k (by decide +kernel), hL.k (by decide +kernel), hL.k (by decide +kernel), hL.k (by decide +kernel)⟩
section RCU
variable {G : pm_G} {d : Nat} {h : pm_H} {tx : List Nat}
theorem r_isLetter {c : Nat} {Q : Int32 → pm_H → Prop} (hc : c < 2 ^ 31) (k : Q (b2i (bwn 97 122 c)) h) : ci G (d + 1) m_X12_isLetter [.int (nI c)] h Q := by
  refine ci_wp rfl (Nat.le_of_ble_eq_true rfl) rfl (x_X12_isLetter ?_)
  unfold bwn at k
  by_cases c1 : 97 ≤ c
  · rw [if_neg (show ¬ nI c < 97 from fun q => by have := (nI_ltI hc (show 97 < 2 ^ 31 by decide)).mp q; omega)]
    rw [decide_eq_true c1, Bool.true_and] at k
    by_cases c2 : c ≤ 122
    · rw [if_neg (show ¬ (122 : Int32) < nI c from fun q => by have := (nI_ltI (show 122 < 2 ^ 31 by decide) hc).mp q; omega)]
      rw [decide_eq_true c2] at k
      exact ⟨_, rfl, k⟩
    · rw [if_pos (show (122 : Int32) < nI c from (nI_ltI (show 122 < 2 ^ 31 by decide) hc).mpr (by omega))]
      rw [decide_eq_false c2] at k
      exact ⟨_, rfl, k⟩
  · rw [if_pos (show nI c < 97 from (nI_ltI hc (show 97 < 2 ^ 31 by decide)).mpr (by omega))]
    rw [decide_eq_false c1, Bool.false_and] at k
    exact ⟨_, rfl, k⟩
theorem r_isDigit {c : Nat} {Q : Int32 → pm_H → Prop} (hc : c < 2 ^ 31) (k : Q (b2i (bwn 48 57 c)) h) : ci G (d + 1) m_X12_isDigit [.int (nI c)] h Q := by
  refine ci_wp rfl (Nat.le_of_ble_eq_true rfl) rfl (x_X12_isDigit ?_)
  unfold bwn at k
  by_cases c1 : 48 ≤ c
  · rw [if_neg (show ¬ nI c < 48 from fun q => by have := (nI_ltI hc (show 48 < 2 ^ 31 by decide)).mp q; omega)]
    rw [decide_eq_true c1, Bool.true_and] at k
    by_cases c2 : c ≤ 57
    · rw [if_neg (show ¬ (57 : Int32) < nI c from fun q => by have := (nI_ltI (show 57 < 2 ^ 31 by decide) hc).mp q; omega)]
      rw [decide_eq_true c2] at k
      exact ⟨_, rfl, k⟩
    · rw [if_pos (show (57 : Int32) < nI c from (nI_ltI (show 57 < 2 ^ 31 by decide) hc).mpr (by omega))]
      rw [decide_eq_false c2] at k
      exact ⟨_, rfl, k⟩
  · rw [if_pos (show nI c < 48 from (nI_ltI hc (show 48 < 2 ^ 31 by decide)).mpr (by omega))]
    rw [decide_eq_false c1, Bool.false_and] at k
    exact ⟨_, rfl, k⟩
theorem r_rank {c : Nat} {Q : Int32 → pm_H → Prop} (h1 : 97 ≤ c) (h2 : c ≤ 122) (k : Q (nI (c - 96)) h) : ci G (d + 2) m_X12_rank [.int (nI c)] h Q := by
  refine ci_wp rfl (Nat.le_of_ble_eq_true rfl) rfl (x_X12_rank (r_isLetter (d := d) (by omega) ?_))
  rw [show bwn 97 122 c = true by unfold bwn; rw [decide_eq_true h1, decide_eq_true h2]; rfl, if_neg (show ¬ b2i true = 0 by decide), show (96 : Int32) = nI 96 from rfl, pk_sub (by omega)]
  exact ⟨_, rfl, k⟩
theorem r_isSignOf {c : Nat} {Q : Int32 → pm_H → Prop} (hc : c < 2 ^ 31) (k : Q (b2i (sgnB c)) h) : ci G (d + 1) m_X12_isSignOf [.int (nI c)] h Q := by
  refine ci_wp rfl (Nat.le_of_ble_eq_true rfl) rfl (x_X12_isSignOf ?_)
  have eq : ∀ j, j < 200 → (nI c = nI j ↔ c = j) := fun j hj => nI_inj hc (by omega)
  have yes : sgnB c = true → ∃ r, some (Value.int 1) = some (.int r) ∧ Q r h := fun z => ⟨_, rfl, by rw [z] at k; exact k⟩
  by_cases c1 : c = 40
  · rw [if_pos (show nI c = 40 from (eq 40 (by decide)).mpr c1)]; exact yes (by rw [c1]; decide)
  rw [if_neg (show ¬ nI c = 40 from fun q => c1 ((eq 40 (by decide)).mp q))]
  by_cases c2 : c = 41
  · rw [if_pos (show nI c = 41 from (eq 41 (by decide)).mpr c2)]; exact yes (by rw [c2]; decide)
  rw [if_neg (show ¬ nI c = 41 from fun q => c2 ((eq 41 (by decide)).mp q))]
  by_cases c8 : c = 59
  · rw [if_pos (show nI c = 59 from (eq 59 (by decide)).mpr c8)]; exact yes (by rw [c8]; decide)
  rw [if_neg (show ¬ nI c = 59 from fun q => c8 ((eq 59 (by decide)).mp q))]
  by_cases c4 : c = 61
  · rw [if_pos (show nI c = 61 from (eq 61 (by decide)).mpr c4)]; exact yes (by rw [c4]; decide)
  rw [if_neg (show ¬ nI c = 61 from fun q => c4 ((eq 61 (by decide)).mp q))]
  by_cases c3 : c = 60
  · rw [if_pos (show nI c = 60 from (eq 60 (by decide)).mpr c3)]; exact yes (by rw [c3]; decide)
  rw [if_neg (show ¬ nI c = 60 from fun q => c3 ((eq 60 (by decide)).mp q))]
  by_cases c5 : c = 43
  · rw [if_pos (show nI c = 43 from (eq 43 (by decide)).mpr c5)]; exact yes (by rw [c5]; decide)
  rw [if_neg (show ¬ nI c = 43 from fun q => c5 ((eq 43 (by decide)).mp q))]
  by_cases c6 : c = 45
  · rw [if_pos (show nI c = 45 from (eq 45 (by decide)).mpr c6)]; exact yes (by rw [c6]; decide)
  rw [if_neg (show ¬ nI c = 45 from fun q => c6 ((eq 45 (by decide)).mp q))]
  by_cases c7 : c = 42
  · rw [if_pos (show nI c = 42 from (eq 42 (by decide)).mpr c7)]; exact yes (by rw [c7]; decide)
  rw [if_neg (show ¬ nI c = 42 from fun q => c7 ((eq 42 (by decide)).mp q))]
  have no : sgnB c = false := by
    unfold sgnB
    simp only [List.contains_cons, List.contains_nil]
    simp [c1, c2, c3, c4, c5, c6, c7, c8]
  rw [no] at k
  exact ⟨_, rfl, k⟩
theorem bE_s {a : Nat} (h : blA tx a = true) (ha : a < tx.length) : bE tx a = bE tx (a + 1) := by
  unfold bE
  rw [show tx.length - a = (tx.length - (a + 1)) + 1 by omega, run, if_pos h]
theorem bE_n {a : Nat} (h : blA tx a = false) : bE tx a = a := by
  unfold bE
  cases tx.length - a with
  | zero => rfl
  | succ n => rw [run, if_neg (by rw [h]; decide)]
theorem TkR.more {h h' : pm_H} {pre : List Tk} {t : Tk} (hP : TkR h pre) (e1 : ∀ j, j < pre.length → gi h' 448 j = gi h 448 j ∧ gi h' 449 j = gi h 449 j ∧ gj h' 450 j = gj h 450 j) (e2 : TokR h' pre.length t) : TkR h' (pre ++ [t]) := by
  intro i u hu
  by_cases c : i < pre.length
  · rw [List.getElem?_append_left c] at hu
    obtain ⟨a1, a2, a3⟩ := e1 i c
    obtain ⟨b1, b2, b3, b4, b5⟩ := hP i u hu
    exact ⟨a1.trans b1, a2.trans b2, fun q => a3.trans (b3 q), fun q => a3.trans (b4 q), fun q => a3.trans (b5 q)⟩
  · by_cases c2 : i = pre.length
    · subst c2
      rw [List.getElem?_append_right (Nat.le_refl _), Nat.sub_self] at hu
      cases hu
      exact e2
    · rw [List.getElem?_eq_none (by simp; omega)] at hu
      cases hu
theorem r_cutLoop {post : pm_PT} (hO : TxO tx) {h0 : pm_H} (hL0 : La h0) (hT0 : TxR h0 tx) (fin : ∀ h', FrK h0 h' → TkR h' (TT tx 0) → gi h' 446 2 = 0 → gi h' 446 3 = nI tx.length → gi h' 446 7 = 0 → gi h' 446 8 = 0 → post none h') : ∀ (m k : Nat) (pre : List Tk) (h : pm_H), tx.length - k ≤ m → k ≤ tx.length → FrK h0 h → gi h 446 2 = 0 → gi h 446 3 = nI tx.length → TkR h pre → pre ++ TT tx k = TT tx 0 → pre.length ≤ k → Wp G (m_X12_cutAll, d + 3, 0, 0, post) (0, 0) 17 [.ref 446, .int (nI pre.length), .int (nI k), .null, .null, .null, .null] [] h := by
  have l1000 := hO.1
  intro m
  induction m with
  | zero =>
    intro k pre h hm hk hF h2 h3 hP he hp
    have hL := hF.la hL0
    obtain ⟨p1, p4, p5, p6, q7, q8, q9, q0⟩ := hL.tok
    refine x_X12_cutAll_17 ⟨hL.md.1, ?_⟩
    rw [h3, if_pos (show nI tx.length ≤ nI k by rw [show k = tx.length by omega]; exact Int32.le_refl _), p4]
    refine ⟨1002, q8, vp_nI (by omega) (by decide), ?_⟩
    rintro _ rfl
    rw [cl_nI (show pre.length < 2 ^ 31 by omega), show gp (si h 448 pre.length 0) 446 5 = 449 from p5, show gi (si h 448 pre.length 0) 446 3 = nI tx.length from h3]
    refine ⟨1002, q9, vp_nI (by omega) (by decide), ?_⟩
    rintro _ rfl _ rfl _ rfl
    have hF4 : FrK h (si (si (si (si h 448 pre.length 0) 449 pre.length (nI tx.length)) 446 7 0) 446 8 0) := (FrK.wr (Or.inl rfl)).trans ((FrK.wr (Or.inr rfl)).trans ((FrK.wi (k := 7) (by omega)).trans (FrK.wi (k := 8) (by omega))))
    refine fin _ (hF.trans hF4) ?_ h2 h3 rfl rfl
    rw [← he, TT_eq hO.1 hk, if_neg (by have := (run_ok (p := blA tx) (tx.length - k) k).1; show ¬ run _ _ _ < _; omega)]
    refine hP.more (fun j hj => ⟨?_, ?_, rfl⟩) ⟨?_, ?_, fun q => absurd (show (0 : Nat) = 1 from q) (by decide), fun q => absurd (show (0 : Nat) = 2 from q) (by decide), fun q => absurd (show (0 : Nat) = 3 from q) (by decide)⟩
    · show (if j = pre.length then 0 else gi h 448 j) = _
      rw [if_neg (by omega)]
    · show (if j = pre.length then nI tx.length else gi h 449 j) = _
      rw [if_neg (by omega)]
    · show (if pre.length = pre.length then 0 else _) = _
      rw [if_pos rfl]; rfl
    · show (if pre.length = pre.length then nI tx.length else _) = _
      rw [if_pos rfl]; rfl
  | succ m ih =>
    intro k pre h hm hk hF h2 h3 hP he hp
    by_cases ck : k < tx.length
    · have hL := hF.la hL0
      have hT := hF.tx hT0
      obtain ⟨p1, p4, p5, p6, q7, q8, q9, q0⟩ := hL.tok
      have ch := hO.ch ck
      refine x_X12_cutAll_17 ⟨hL.md.1, ?_⟩
      rw [h3, if_neg (show ¬ nI tx.length ≤ nI k from nI_nlen ck (by omega)), p1, cl_nI (show k < 2 ^ 31 by omega), hT k ck, nI_1]
      refine ⟨1000, q7, vp_nI (by omega) (by decide), ?_⟩
      have blk : blA tx k = true → Wp G (m_X12_cutAll, d + 3, 0, 0, post) (0, 0) 17 [.ref 446, .int (nI pre.length), .int (nI (k + 1)), .null, .null, .null, .null] [] h := by
        intro z
        refine ih (k + 1) pre h (by omega) (by omega) hF h2 h3 hP ?_ (by omega)
        rw [← he, TT_eq hO.1 hk, TT_eq (a := k + 1) hO.1 (by omega), bE_s z ck]
      by_cases b1 : chA tx k = 10
      · rw [if_pos (show nI (chA tx k) = 10 by rw [b1]; rfl)]
        exact blk (by unfold blA; rw [decide_eq_true ck, decide_eq_true b1]; rfl)
      rw [if_neg (show ¬ nI (chA tx k) = 10 from fun q => b1 ((nI_inj (b := 10) (by omega) (by decide)).mp q))]
      by_cases b2 : chA tx k = 32
      · rw [if_pos (show nI (chA tx k) = 32 by rw [b2]; rfl)]
        exact blk (by unfold blA; rw [decide_eq_true ck, decide_eq_true b2]; simp)
      rw [if_neg (show ¬ nI (chA tx k) = 32 from fun q => b2 ((nI_inj (b := 32) (by omega) (by decide)).mp q)), p5]
      have nb : blA tx k = false := by unfold blA; rw [decide_eq_false b1, decide_eq_false b2, Bool.or_false, Bool.and_false]
      have eb := bE_n nb
      obtain ⟨te1, te2, te3⟩ := tkA_end ck
      have hcons : TT tx k = (tkA tx k).1 :: TT tx (tkA tx k).2 := by rw [TT_eq hO.1 hk, eb, if_pos ck]
      refine ⟨1002, q9, vp_nI (by omega) (by decide), ?_⟩
      rintro _ rfl
      rw [cl_nI (show pre.length < 2 ^ 31 by omega)]
      have hF9 : FrK h (si h 449 pre.length (nI k)) := FrK.wr (Or.inr rfl)
      have hP9 : gi (si h 449 pre.length (nI k)) 449 pre.length = nI k := by show (if pre.length = pre.length then _ else _) = _; rw [if_pos rfl]
      have hQ9 : ∀ j, j < pre.length → gi (si h 449 pre.length (nI k)) 448 j = gi h 448 j ∧ gi (si h 449 pre.length (nI k)) 449 j = gi h 449 j ∧ gj (si h 449 pre.length (nI k)) 450 j = gj h 450 j := fun j hj => ⟨rfl, by show (if j = pre.length then _ else _) = _; rw [if_neg (by omega)], rfl⟩
      have h29 : gi (si h 449 pre.length (nI k)) 446 2 = 0 := h2
      have h39 : gi (si h 449 pre.length (nI k)) 446 3 = nI tx.length := h3
      generalize si h 449 pre.length (nI k) = h9 at *
      have hL9 := hF9.la hL
      have hT9 := hF9.tx hT
      -- behind a TOKEN
      have done : ∀ (s : Nat) (V : Int64) (e : Nat), (tkA tx k).1.2.1 = s → (tkA tx k).1.1 = k → (tkA tx k).2 = e → (s = 1 → V = lN (e37 (tkA tx k).1.2.2)) → (s = 2 → V = lN (nmv (tkA tx k).1.2.2)) → (s = 3 → V = lN ((tkA tx k).1.2.2.headD 0)) → Wp G (m_X12_cutAll, d + 3, 0, 0, post) (0, 0) 265 [.ref 446, .int (nI pre.length), .int (nI e), .null, .null, .long V, .null] [] (si h9 448 pre.length (nI s)) := by
        intro s V e es ep ee v1 v2 v3
        subst ee
        refine x_X12_cutAll_265 ⟨hL9.md.1, ?_⟩
        rw [show gp (si h9 448 pre.length (nI s)) 446 6 = 450 from hL9.tok.2.2.2.1, cl_nI (show pre.length < 2 ^ 31 by omega), nI_1]
        refine ⟨1002, hL9.tok.2.2.2.2.2.2.2, vp_nI (by omega) (by decide), ?_⟩
        rintro _ rfl
        have hF10 : FrK h9 (sl (si h9 448 pre.length (nI s)) 450 pre.length V) := (FrK.wr (Or.inl rfl)).trans FrK.wl
        have K := ih (tkA tx k).2 (pre ++ [(tkA tx k).1]) (sl (si h9 448 pre.length (nI s)) 450 pre.length V) (by omega) te2 (hF.trans (hF9.trans hF10)) h29 h39 (hP.more (fun j hj => ?_) ?_) (by rw [List.append_assoc, List.singleton_append, ← hcons, he]) (by rw [List.length_append, List.length_singleton]; omega)
        · rw [List.length_append, List.length_singleton] at K
          exact K
        · obtain ⟨z1, z2, z3⟩ := hQ9 j hj
          refine ⟨?_, z2, ?_⟩
          · show (if j = pre.length then _ else gi h9 448 j) = _
            rw [if_neg (by omega)]; exact z1
          · show (if j = pre.length then _ else gj h9 450 j) = _
            rw [if_neg (by omega)]; exact z3
        · have v0 : gj (sl (si h9 448 pre.length (nI s)) 450 pre.length V) 450 pre.length = V := by show (if pre.length = pre.length then _ else _) = _; rw [if_pos rfl]
          refine ⟨?_, by rw [ep]; exact hP9, fun q => by rw [v0]; exact v1 (es.symm.trans q), fun q => by rw [v0]; exact v2 (es.symm.trans q), fun q => by rw [v0]; exact v3 (es.symm.trans q)⟩
          show (if pre.length = pre.length then nI s else _) = _
          rw [if_pos rfl, es]
      refine r_isLetter (d := d + 1) (by omega) ?_
      rw [← leA_in ck]
      by_cases l1 : leA tx k = true
      · rw [l1, if_neg (show ¬ b2i true = 0 by decide)]
        obtain ⟨r1, r2, r3, r4⟩ := run_ok (p := leA tx) (tx.length - k) k
        obtain ⟨r5, r6⟩ := run_stop (p := leA tx) (L := tx.length) (a := k) le_out (by omega)
        have etk : tkA tx k = ((k, if lE tx k - k ≤ 8 then 1 else 4, subL tx k (lE tx k)), lE tx k) := if_pos l1
        rw [etk] at done
        have r1 : k ≤ lE tx k := r1
        have r3 : ∀ j, k ≤ j → j < lE tx k → leA tx j = true := r3
        have r5 : lE tx k ≤ tx.length := r5
        have r6 : leA tx (lE tx k) = false := r6
        clear etk hcons te1 te2 te3 r2 r4 ih
        generalize lE tx k = e at *
        have key := up_to (P := fun j => ∀ V : Int64, (j ≤ 8 → V = lN (e37 (subL tx k (k + j)))) → Wp G (m_X12_cutAll, d + 3, 0, 0, post) (0, 0) 70 [.ref 446, .int (nI pre.length), .int (nI (k + j)), .null, .int (nI k), .long V, .null] [] h9) (e - k) (fun j hj ih2 => ?_) ?_
        · exact key 0 (fun _ => by rw [show k + 0 = k from rfl, subL_0]; rfl)
        · intro V hV
          have lj := r3 (k + j) (by omega) (by omega)
          obtain ⟨lj1, lj2, lj3⟩ := leA_lt lj
          refine x_X12_cutAll_70 ⟨hL9.md.1, ?_⟩
          rw [h39, if_neg (show ¬ nI tx.length ≤ nI (k + j) from nI_nlen lj1 (by omega)), hL9.tok.1, cl_nI (show k + j < 2 ^ 31 by omega), hT9 (k + j) lj1, pk_sub (show k ≤ k + j by omega), nI_1]
          refine ⟨1000, hL9.tok.2.2.2.2.1, vp_nI (by omega) (by decide), r_isLetter (d := d + 1) (by omega) ?_⟩
          rw [← leA_in lj1, lj, if_neg (show ¬ b2i true = 0 by decide)]
          by_cases c8 : 8 ≤ j
          · rw [if_pos (show (8 : Int32) ≤ nI (k + j - k) from (nI_leI (a := 8) (by decide) (by omega)).mpr (by omega))]
            exact ih2 V (fun q => by omega)
          · rw [if_neg (show ¬ (8 : Int32) ≤ nI (k + j - k) from fun q => by have := (nI_leI (a := 8) (by decide) (by omega)).mp q; omega), hL9.tok.1, hT9 (k + j) lj1]
            refine ⟨hL9.md.1, 1000, hL9.tok.2.2.2.2.1, vp_nI (by omega) (by decide), r_rank (d := d) lj2 lj3 ?_⟩
            refine ih2 _ (fun _ => ?_)
            rw [hV (by omega), show k + (j + 1) = k + j + 1 by omega, subL_s (by omega), e37_s, nI_l (by omega), show (37 : Int64) = lN 37 from rfl, lN_mul, lN_add]
        · intro V hV
          rw [show k + (e - k) = e by omega] at hV ⊢
          have to129 : Wp G (m_X12_cutAll, d + 3, 0, 0, post) (0, 0) 129 [.ref 446, .int (nI pre.length), .int (nI e), .null, .int (nI k), .long V, .null] [] h9 := by
            refine x_X12_cutAll_129 ⟨hL9.md.1, ?_⟩
            rw [pk_sub r1, hL9.tok.2.1, cl_nI (show pre.length < 2 ^ 31 by omega)]
            by_cases c : e - k ≤ 8
            · rw [if_pos (show nI (e - k) ≤ 8 from (nI_leI (b := 8) (by omega) (by decide)).mpr c)]
              refine ⟨1002, hL9.tok.2.2.2.2.2.1, vp_nI (by omega) (by decide), ?_⟩
              rintro _ rfl
              exact done 1 V e (if_pos c) rfl rfl (fun _ => hV c) (fun q => absurd q (by decide)) (fun q => absurd q (by decide))
            · rw [if_neg (show ¬ nI (e - k) ≤ 8 from fun q => c ((nI_leI (b := 8) (by omega) (by decide)).mp q))]
              refine ⟨1002, hL9.tok.2.2.2.2.2.1, vp_nI (by omega) (by decide), ?_⟩
              rintro _ rfl
              exact done 4 V e (if_neg c) rfl rfl (fun q => absurd q (by decide)) (fun q => absurd q (by decide)) (fun q => absurd q (by decide))
          refine x_X12_cutAll_70 ⟨hL9.md.1, ?_⟩
          rw [h39]
          by_cases c : e < tx.length
          · rw [if_neg (show ¬ nI tx.length ≤ nI e from nI_nlen c (by omega)), hL9.tok.1, cl_nI (show e < 2 ^ 31 by omega), hT9 e c]
            have che := hO.ch c
            refine ⟨1000, hL9.tok.2.2.2.2.1, vp_nI (by omega) (by decide), r_isLetter (d := d + 1) (by omega) ?_⟩
            rw [← leA_in c, r6, if_pos (show b2i false = 0 from rfl)]
            exact to129
          · rw [if_pos (show nI tx.length ≤ nI e by rw [i_le, nI_toInt (by omega), nI_toInt (by omega)]; omega)]
            exact to129
      have l1 : leA tx k = false := by simpa using l1
      rw [l1, if_pos (show b2i false = 0 from rfl)]
      refine r_isDigit (d := d + 1) (by omega) ?_
      rw [← diA_in ck]
      by_cases g1 : diA tx k = true
      · rw [g1, if_neg (show ¬ b2i true = 0 by decide)]
        obtain ⟨r1, r2, r3, r4⟩ := run_ok (p := diA tx) (tx.length - k) k
        obtain ⟨r5, r6⟩ := run_stop (p := diA tx) (L := tx.length) (a := k) di_out (by omega)
        have etk : tkA tx k = ((k, if dE tx k - k ≤ 4 then 2 else 4, subL tx k (dE tx k)), dE tx k) := by unfold tkA; rw [if_neg (by rw [l1]; decide), if_pos g1]
        rw [etk] at done
        have r1 : k ≤ dE tx k := r1
        have r3 : ∀ j, k ≤ j → j < dE tx k → diA tx j = true := r3
        have r5 : dE tx k ≤ tx.length := r5
        have r6 : diA tx (dE tx k) = false := r6
        clear etk hcons te1 te2 te3 r2 r4 ih
        generalize dE tx k = e at *
        have key := up_to (P := fun j => ∀ V : Int64, (j ≤ 4 → V = lN (nmv (subL tx k (k + j)))) → Wp G (m_X12_cutAll, d + 3, 0, 0, post) (0, 0) 159 [.ref 446, .int (nI pre.length), .int (nI (k + j)), .null, .int (nI k), .long V, .null] [] h9) (e - k) (fun j hj ih2 => ?_) ?_
        · exact key 0 (fun _ => by rw [show k + 0 = k from rfl, subL_0]; rfl)
        · intro V hV
          have lj := r3 (k + j) (by omega) (by omega)
          obtain ⟨lj1, lj2, lj3⟩ := diA_lt lj
          refine x_X12_cutAll_159 ⟨hL9.md.1, ?_⟩
          rw [h39, if_neg (show ¬ nI tx.length ≤ nI (k + j) from nI_nlen lj1 (by omega)), hL9.tok.1, cl_nI (show k + j < 2 ^ 31 by omega), hT9 (k + j) lj1, pk_sub (show k ≤ k + j by omega), nI_1]
          refine ⟨1000, hL9.tok.2.2.2.2.1, vp_nI (by omega) (by decide), r_isDigit (d := d + 1) (by omega) ?_⟩
          rw [← diA_in lj1, lj, if_neg (show ¬ b2i true = 0 by decide)]
          by_cases c8 : 4 ≤ j
          · rw [if_pos (show (4 : Int32) ≤ nI (k + j - k) from (nI_leI (a := 4) (by decide) (by omega)).mpr (by omega))]
            exact ih2 V (fun q => by omega)
          · rw [if_neg (show ¬ (4 : Int32) ≤ nI (k + j - k) from fun q => by have := (nI_leI (a := 4) (by decide) (by omega)).mp q; omega), hL9.tok.1, hT9 (k + j) lj1]
            refine ⟨hL9.md.1, 1000, hL9.tok.2.2.2.2.1, vp_nI (by omega) (by decide), ?_⟩
            rintro _ rfl
            refine ih2 _ (fun _ => ?_)
            rw [hV (by omega), show k + (j + 1) = k + j + 1 by omega, subL_s (by omega), nmv_s, nI_l (by omega), show (10 : Int64) = lN 10 from rfl, lN_mul, lN_add, show (48 : Int64) = lN 48 from rfl, lN_sub (by omega), show 10 * nmv (subL tx k (k + j)) + chA tx (k + j) - 48 = 10 * nmv (subL tx k (k + j)) + (chA tx (k + j) - 48) by omega]
        · intro V hV
          rw [show k + (e - k) = e by omega] at hV ⊢
          have to218 : Wp G (m_X12_cutAll, d + 3, 0, 0, post) (0, 0) 218 [.ref 446, .int (nI pre.length), .int (nI e), .null, .int (nI k), .long V, .null] [] h9 := by
            refine x_X12_cutAll_218 ⟨hL9.md.1, ?_⟩
            rw [pk_sub r1, hL9.tok.2.1, cl_nI (show pre.length < 2 ^ 31 by omega)]
            by_cases c : e - k ≤ 4
            · rw [if_pos (show nI (e - k) ≤ 4 from (nI_leI (b := 4) (by omega) (by decide)).mpr c)]
              refine ⟨1002, hL9.tok.2.2.2.2.2.1, vp_nI (by omega) (by decide), ?_⟩
              rintro _ rfl
              exact done 2 V e (if_pos c) rfl rfl (fun q => absurd q (by decide)) (fun _ => hV c) (fun q => absurd q (by decide))
            · rw [if_neg (show ¬ nI (e - k) ≤ 4 from fun q => c ((nI_leI (b := 4) (by omega) (by decide)).mp q))]
              refine ⟨1002, hL9.tok.2.2.2.2.2.1, vp_nI (by omega) (by decide), ?_⟩
              rintro _ rfl
              exact done 4 V e (if_neg c) rfl rfl (fun q => absurd q (by decide)) (fun q => absurd q (by decide)) (fun q => absurd q (by decide))
          refine x_X12_cutAll_159 ⟨hL9.md.1, ?_⟩
          rw [h39]
          by_cases c : e < tx.length
          · rw [if_neg (show ¬ nI tx.length ≤ nI e from nI_nlen c (by omega)), hL9.tok.1, cl_nI (show e < 2 ^ 31 by omega), hT9 e c]
            have che := hO.ch c
            refine ⟨1000, hL9.tok.2.2.2.2.1, vp_nI (by omega) (by decide), r_isDigit (d := d + 1) (by omega) ?_⟩
            rw [← diA_in c, r6, if_pos (show b2i false = 0 from rfl)]
            exact to218
          · rw [if_pos (show nI tx.length ≤ nI e by rw [i_le, nI_toInt (by omega), nI_toInt (by omega)]; omega)]
            exact to218
      have g1 : diA tx k = false := by simpa using g1
      rw [g1, if_pos (show b2i false = 0 from rfl)]
      have etk : tkA tx k = ((k, if sgnB (chA tx k) = true then 3 else 4, [chA tx k]), k + 1) := by unfold tkA; rw [if_neg (by rw [l1]; decide), if_neg (by rw [g1]; decide)]
      rw [etk] at done
      refine ⟨hL9.md.1, r_isSignOf (d := d + 1) (by omega) ?_⟩
      rw [hL9.tok.2.1, nI_l (show chA tx k < 2 ^ 31 by omega)]
      by_cases z : sgnB (chA tx k) = true
      · rw [z, if_neg (show ¬ b2i true = 0 by decide)]
        refine ⟨1002, hL9.tok.2.2.2.2.2.1, vp_nI (by omega) (by decide), ?_⟩
        rintro _ rfl
        exact done 3 _ (k + 1) (if_pos z) rfl rfl (fun q => absurd q (by decide)) (fun q => absurd q (by decide)) (fun _ => rfl)
      · have z0 : sgnB (chA tx k) = false := by simpa using z
        rw [z0, if_pos (show b2i false = 0 from rfl)]
        refine ⟨1002, hL9.tok.2.2.2.2.2.1, vp_nI (by omega) (by decide), ?_⟩
        rintro _ rfl
        exact done 4 _ (k + 1) (if_neg z) rfl rfl (fun q => absurd q (by decide)) (fun q => absurd q (by decide)) (fun q => absurd q (by decide))
    · exact (fun q => q) (by
        have hm0 : tx.length - k = 0 := by omega
        have hL := hF.la hL0
        obtain ⟨p1, p4, p5, p6, q7, q8, q9, q0⟩ := hL.tok
        refine x_X12_cutAll_17 ⟨hL.md.1, ?_⟩
        rw [h3, if_pos (show nI tx.length ≤ nI k by rw [show k = tx.length by omega]; exact Int32.le_refl _), p4]
        refine ⟨1002, q8, vp_nI (by omega) (by decide), ?_⟩
        rintro _ rfl
        rw [cl_nI (show pre.length < 2 ^ 31 by omega), show gp (si h 448 pre.length 0) 446 5 = 449 from p5, show gi (si h 448 pre.length 0) 446 3 = nI tx.length from h3]
        refine ⟨1002, q9, vp_nI (by omega) (by decide), ?_⟩
        rintro _ rfl _ rfl _ rfl
        have hF4 : FrK h (si (si (si (si h 448 pre.length 0) 449 pre.length (nI tx.length)) 446 7 0) 446 8 0) := (FrK.wr (Or.inl rfl)).trans ((FrK.wr (Or.inr rfl)).trans ((FrK.wi (k := 7) (by omega)).trans (FrK.wi (k := 8) (by omega))))
        refine fin _ (hF.trans hF4) ?_ h2 h3 rfl rfl
        rw [← he, TT_eq hO.1 hk, if_neg (by have := (run_ok (p := blA tx) (tx.length - k) k).1; show ¬ run _ _ _ < _; omega)]
        refine hP.more (fun j hj => ⟨?_, ?_, rfl⟩) ⟨?_, ?_, fun q => absurd (show (0 : Nat) = 1 from q) (by decide), fun q => absurd (show (0 : Nat) = 2 from q) (by decide), fun q => absurd (show (0 : Nat) = 3 from q) (by decide)⟩
        · show (if j = pre.length then 0 else gi h 448 j) = _
          rw [if_neg (by omega)]
        · show (if j = pre.length then nI tx.length else gi h 449 j) = _
          rw [if_neg (by omega)]
        · show (if pre.length = pre.length then 0 else _) = _
          rw [if_pos rfl]; rfl
        · show (if pre.length = pre.length then nI tx.length else _) = _
          rw [if_pos rfl]; rfl)
theorem r_cutAll {Q : pm_H → Prop} (hO : TxO tx) (hL : La h) (hT : TxR h tx) (h2 : gi h 446 2 = nI tx.length) (k : ∀ h', FrK h h' → TkR h' (TT tx 0) → gi h' 446 2 = 0 → gi h' 446 3 = nI tx.length → gi h' 446 7 = 0 → gi h' 446 8 = 0 → Q h') : cv G (d + 3) m_X12_cutAll [.ref 446] h Q := by
  refine cv_wp rfl (Nat.le_of_ble_eq_true rfl) rfl (x_X12_cutAll ⟨hL.md.1, ?_⟩)
  rintro _ rfl _ rfl
  have hF : FrK h (si (si h 446 3 (gi h 446 2)) 446 2 0) := (FrK.wi (k := 3) (by omega)).trans (FrK.wi (k := 2) (by omega))
  exact r_cutLoop (d := d) (post := fun v h1 => v = none ∧ Q h1) hO hL hT (fun h' a b c e f g => ⟨rfl, k h' a b c e f g⟩) tx.length 0 [] _ (by omega) (Nat.zero_le _) hF rfl h2 (fun i t q => by cases q) rfl (Nat.le_refl _)
end RCU
