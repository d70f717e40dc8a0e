/-! THE LAW's E: what stands in it is small -/
def Nb (ts : List Tk) : Prop := ∀ t ∈ ts, t.2.1 = 2 → nmv t.2.2 < 10000
theorem nb_tail {ts : List Tk} (h : Nb ts) : Nb ts.tail := fun t ht => h t (List.mem_of_mem_tail ht)
theorem nb_hd {ts : List Tk} (h : Nb ts) : (hdT ts).2.1 = 2 → nmv (hdT ts).2.2 < 10000 := by
  cases ts with
  | nil => intro q; cases q
  | cons t r => exact h t List.mem_cons_self
theorem nb_stp {k : Nat} {s : PS} (h : Nb s.2) : Nb (stp k s).2 := by
  unfold stp
  split
  · split
    · exact (nb_tail h)
    · exact h
  · exact h
theorem nb_tks {tx : List Nat} (hO : TxO tx) : ∀ (n a : Nat), Nb (tks tx n a)
  | 0, a => by
    intro t ht q
    rw [List.mem_singleton.mp ht] at q; cases q
  | n + 1, a => by
    show Nb (if bE tx a < tx.length then (tkA tx (bE tx a)).1 :: tks tx n (tkA tx (bE tx a)).2 else [tkE tx])
    split
    next c =>
      intro t ht q
      rcases List.mem_cons.mp ht with z | z
      · rw [z] at q ⊢; exact (tkA_ok hO c).2.1 q
      · exact nb_tks hO n _ t z q
    next c =>
      intro t ht q
      rw [List.mem_singleton.mp ht] at q; cases q
def Oo (o : Op) : Prop := o.1 ≤ 10 ∧ o.2 < 10000
def Bo (p : PS → PR) : Prop := ∀ s : PS, Nb s.2 → Nb (p s).1.2 ∧ ∀ o ∈ (p s).2, Oo o
theorem lpB_bo {p : PS → PR} {l : Nat} (h : Bo p) : ∀ (n : Nat) (s : PS), Nb s.2 → Nb (lpB p l n s).1.2 ∧ ∀ o ∈ (lpB p l n s).2, Oo o
  | 0, s, h1 => ⟨h1, fun o ho => by cases ho⟩
  | n + 1, s, h1 => by
    rw [lpB]
    by_cases c : s.1 = 0 ∧ lvT s.2 = l
    · rw [if_pos c]
      obtain ⟨a, b⟩ := h (0, s.2.tail) (nb_tail h1)
      obtain ⟨a2, b2⟩ := lpB_bo h n (p (0, s.2.tail)).1 a
      refine ⟨a2, fun o ho => ?_⟩
      rcases List.mem_append.mp ho with q | q
      · exact b o q
      · rcases List.mem_cons.mp q with q | q
        · rw [q]
          refine ⟨?_, show (0 : Nat) < 10000 by decide⟩
          have := opT_lt (hdT s.2)
          show opT (hdT s.2) ≤ 10
          omega
        · exact b2 o q
    · rw [if_neg c]; exact ⟨h1, fun o ho => by cases ho⟩
theorem lvl_bo {p : PS → PR} {l : Nat} (h : Bo p) : Bo (lvl p l) := by
  intro s h1
  obtain ⟨a, b⟩ := h s h1
  obtain ⟨a2, b2⟩ := lpB_bo (l := l) h (if l = 2 then 1 else (p s).1.2.length) (p s).1 a
  refine ⟨a2, fun o ho => ?_⟩
  have ho : o ∈ (p s).2 ++ (lpB p l (if l = 2 then 1 else (p s).1.2.length) (p s).1).2 := ho
  rcases List.mem_append.mp ho with q | q
  · exact b o q
  · exact b2 o q
theorem alo_bo {p : PS → PR} (h : Bo p) : Bo (alo p) := lvl_bo (lvl_bo (lvl_bo (lvl_bo h)))
theorem prt_bo : ∀ D : Nat, Bo (prt D)
  | 0 => by
    intro s h1
    rw [prt]
    split
    · exact ⟨h1, fun o ho => by cases ho⟩
    · exact ⟨h1, fun o ho => by cases ho⟩
  | D + 1 => by
    intro s h1
    have ih := prt_bo D
    rw [prt]
    by_cases c : s.1 ≠ 0
    · rw [if_pos c]; exact ⟨h1, fun o ho => by cases ho⟩
    · rw [if_neg c]
      by_cases c1 : stT (hdT s.2) = false
      · rw [if_pos c1]; exact ⟨h1, fun o ho => by cases ho⟩
      · rw [if_neg c1]
        by_cases c2 : tW 16 (hdT s.2) = true
        · rw [if_pos c2]
          obtain ⟨a, b⟩ := ih (0, s.2.tail) (nb_tail h1)
          refine ⟨a, fun o ho => ?_⟩
          rcases List.mem_append.mp ho with q | q
          · exact b o q
          · rw [List.mem_singleton.mp q]; exact ⟨by decide, by decide⟩
        · rw [if_neg c2]
          by_cases c3 : tS 40 (hdT s.2) = true
          · rw [if_pos c3]
            obtain ⟨a, b⟩ := alo_bo ih (0, s.2.tail) (nb_tail h1)
            exact ⟨nb_stp a, b⟩
          · rw [if_neg c3]
            refine ⟨(nb_tail h1), fun o ho => ?_⟩
            rw [List.mem_singleton.mp ho]
            unfold paO
            by_cases tn : tN (hdT s.2) = true
            · rw [if_pos tn]; exact ⟨show (1 : Nat) ≤ 10 by decide, nb_hd h1 (of_decide_eq_true tn)⟩
            · rw [if_neg tn]
              refine ⟨show (2 : Nat) ≤ 10 by decide, ?_⟩
              show (fcT (hdT s.2)).getD 0 < 10000
              cases hfc : fcT (hdT s.2) with
              | none => decide
              | some j =>
                have := fcT_lt hfc
                show j < 10000
                omega
theorem alo5_bo : Bo (alo (prt 5)) := alo_bo (prt_bo 5)
def PlB (P : Pl) : Prop := ∀ o ∈ pLw P, Oo o
theorem lineQ_bo {s : PS} {P : Pl} (h : Nb s.2) (hP : PlB P) : Nb (lineQ s P).1.2 ∧ PlB (lineQ s P).2 := by
  unfold lineQ
  split
  · exact ⟨(nb_stp (nb_stp (nb_stp h))), hP⟩
  · split
    · exact ⟨(nb_stp (nb_stp (nb_stp (nb_stp h)))), hP⟩
    · split
      · exact ⟨nb_stp (nb_stp (nb_stp (nb_stp (nb_stp (nb_stp (nb_stp (nb_stp (nb_stp h)))))))), hP⟩
      · split
        · exact ⟨(nb_stp (nb_stp (nb_stp h))), hP⟩
        · split
          · have q := alo5_bo
            unfold lineG
            generalize alo (prt 5) = al at *
            obtain ⟨a, b⟩ := q (gwA s P) (nb_stp h)
            exact ⟨nb_stp a, b⟩
          · unfold wrg
            split
            · exact ⟨h, hP⟩
            · exact ⟨h, hP⟩
theorem qL_bo : ∀ (n : Nat) (s : PS) (P : Pl), Nb s.2 → PlB P → PlB (qL n s P).2
  | 0, _, _, _, hP => hP
  | n + 1, s, P, h, hP => by
    rw [qL]
    split
    · obtain ⟨a, b⟩ := lineQ_bo (s := s) h hP
      exact qL_bo n _ _ a b
    · exact hP
theorem qL_plb {tx : List Nat} (hO : TxO tx) : PlB (qL 1001 (0, TT tx 0) pl0).2 := qL_bo 1001 (0, TT tx 0) pl0 (nb_tks hO 1001 0) (fun o ho => by cases ho)
theorem CE.cr {z : Nat → Int32} : ∀ {ops : List Op} {i : Nat}, CE z i ops → (∀ o ∈ ops, Oo o) → z (i + ops.length) = 0 → CR z i ops
  | [], i, _, _, h0 => h0
  | o :: r, i, ⟨h1, h2⟩, ho, h0 => by
    have q := ho o List.mem_cons_self
    refine ⟨⟨h1, by have := q.1; have := q.2; omega⟩, h2.cr (fun x hx => ho x (List.mem_cons_of_mem _ hx)) ?_⟩
    rw [List.length_cons] at h0
    rw [show i + 1 + r.length = i + (r.length + 1) by omega]
    exact h0
