/-! WHAT STANDS while the class is made: B n U h: n cells are made; (a, k) with U a k is still unset -/
def mkU (n : Nat) (U : Nat → Nat → Bool) : Nat → Nat → Bool := fun x y => if n ≤ x then false else U x y
def opU (n : Nat) (U : Nat → Nat → Bool) : Nat → Nat → Bool := fun x y => if x = n then true else U x y
def puU (a k : Nat) (U : Nat → Nat → Bool) : Nat → Nat → Bool := fun x y => if x = a ∧ y = k then false else U x y
def zeC (a j : Nat) : Prop := ¬ (a = 1 ∧ 7 ≤ j) ∧ ¬ ((a = 3 ∨ a = 22) ∧ j = 8) ∧ ¬ (a = 56 ∧ j = 5)
def B (n : Nat) (U : Nat → Nat → Bool) (h : pm_H) : Prop := h.1 = K0.take n ∧ n ≤ 464 ∧ (∀ a k, gp h a k = if a < n ∧ U a k = false then P0 a k else 2000) ∧ (∀ a N j, a < n → a < 446 → K0[a]? = some (1, N) → j < N → gi h a j = -1) ∧ (∀ a c j, a < n → K0[a]? = some (0, c) → zeC a j → gi h a j = 0)
theorem K0_len : K0.length = 464 := by decide +kernel
theorem B.len {n : Nat} {U : Nat → Nat → Bool} {h : pm_H} (b : B n U h) : h.1.length = n := by
  rw [b.1, List.length_take, K0_len]
  have := b.2.1
  omega
theorem B.at {n a : Nat} {U : Nat → Nat → Bool} {h : pm_H} {q : Nat × Nat} (b : B n U h) (ha : a < n) (e : K0[a]? = some q) : h.1[a]? = some q := by
  rw [b.1, List.getElem?_take, if_pos ha]; exact e
theorem take_one {n : Nat} {q : Nat × Nat} (e : K0[n]? = some q) : K0.take n ++ [q] = K0.take (n + 1) := by
  rw [List.take_add_one, e]; rfl
theorem B.weak {n : Nat} {U U' : Nat → Nat → Bool} {h : pm_H} (b : B n U h) (e : ∀ a k, a < n → U' a k = U a k ∨ P0 a k = 2000) : B n U' h := by
  refine ⟨b.1, b.2.1, fun a k => ?_, b.2.2.2⟩
  rw [b.2.2.1]
  by_cases ha : a < n
  · rcases e a k ha with q | q
    · rw [q]
    · rw [q]; split <;> split <;> rfl
  · rw [if_neg (fun z => ha z.1), if_neg (fun z => ha z.1)]
theorem B.new {n : Nat} {U : Nat → Nat → Bool} {h : pm_H} {kd : Nat × Nat} (b : B n U h) (e : K0[n]? = some kd) (h1 : kd.1 ≠ 1 ∨ 446 ≤ n) : B (n + 1) (opU n U) (pm_nw h kd) := by
  have hl := b.len
  have hn : n < 464 := by
    have := (List.getElem?_eq_some_iff.mp e).1
    rw [K0_len] at this; exact this
  refine ⟨?_, hn, fun a k => ?_, fun a N j ha ha2 hk hj => ?_, fun a c j ha hk hz => ?_⟩
  · show h.1 ++ [kd] = _
    rw [b.1]; exact take_one e
  · show pm_zr h.2.2.2.2 h.1.length 2000 a k = _
    unfold pm_zr opU
    rw [hl]
    by_cases c : a = n
    · rw [if_pos c, if_neg (fun z => by rw [if_pos c] at z; cases z.2)]
    · rw [if_neg c, if_neg c]
      have := b.2.2.1 a k
      rw [show h.2.2.2.2 a k = gp h a k from rfl, this]
      by_cases c2 : a < n
      · by_cases c3 : U a k = false
        · rw [if_pos ⟨c2, c3⟩, if_pos ⟨by omega, c3⟩]
        · rw [if_neg (fun z => c3 z.2), if_neg (fun z => c3 z.2)]
      · rw [if_neg (fun z => c2 z.1), if_neg (fun z => c2 (by omega))]
  · by_cases c : a = n
    · exfalso
      rw [c, e] at hk
      cases hk
      rcases h1 with q | q
      · exact q rfl
      · omega
    · show pm_zr h.2.1 h.1.length 0 a j = _
      unfold pm_zr
      rw [hl, if_neg c]
      exact b.2.2.2.1 a N j (by omega) ha2 hk hj
  · show pm_zr h.2.1 h.1.length 0 a j = _
    unfold pm_zr
    rw [hl]
    by_cases q : a = n
    · rw [if_pos q]
    · rw [if_neg q]
      exact b.2.2.2.2 a c j (by omega) hk hz
theorem B.put {n a k v : Nat} {U : Nat → Nat → Bool} {h : pm_H} (b : B n U h) (ha : a < n) (e : P0 a k = v) : B n (puU a k U) (sp h a k v) := by
  refine ⟨b.1, b.2.1, fun x y => ?_, b.2.2.2⟩
  show pm_u (gp h) a k v x y = _
  unfold puU pm_u
  by_cases c : x = a
  · rw [if_pos c]
    by_cases c2 : y = k
    · rw [if_pos c2, if_pos ⟨by omega, by rw [if_pos ⟨c, c2⟩]⟩, c, c2, e]
    · rw [if_neg c2, b.2.2.1]
      have : (if x = a ∧ y = k then false else U x y) = U x y := if_neg (fun z => c2 z.2)
      rw [this]
  · rw [if_neg c, b.2.2.1]
    have : (if x = a ∧ y = k then false else U x y) = U x y := if_neg (fun z => c z.1)
    rw [this]
theorem B.int {n a k c : Nat} {v : Int32} {U : Nat → Nat → Bool} {h : pm_H} (b : B n U h) (e : K0[a]? = some (0, c)) (hv : v = 0 ∨ ¬ zeC a k) : B n U (si h a k v) := by
  refine ⟨b.1, b.2.1, b.2.2.1, fun x N j hx hx2 hk hj => ?_, fun x c' j hx hk hz => ?_⟩
  · have ne : x ≠ a := fun z => by rw [z, e] at hk; cases hk
    exact (si_to ne).trans (b.2.2.2.1 x N j hx hx2 hk hj)
  · by_cases q : x = a
    · rw [q, si_on]
      by_cases q2 : j = k
      · rw [if_pos q2]
        rcases hv with z | z
        · exact z
        · rw [q, q2] at hz; exact absurd hz z
      · rw [if_neg q2]
        rw [q] at hk hz hx
        exact b.2.2.2.2 a c' j hx hk hz
    · exact (si_to q).trans (b.2.2.2.2 x c' j hx hk hz)
theorem B.lng {n a k : Nat} {v : Int64} {U : Nat → Nat → Bool} {h : pm_H} (b : B n U h) : B n U (sl h a k v) := b
/-- a row: the object and its ints, all -1 -/
abbrev rowT (n N : Nat) : Prop := K0[n]? = some (0, 6) ∧ K0[n + 1]? = some (1, N) ∧ PT.getD n [] = [n + 1] ∧ PT.getD (n + 1) [] = [] ∧ N ≤ 5000 ∧ n + 1 < 446 ∧ n ≠ 1
def r6 (h : pm_H) (b N : Nat) : pm_H := sm (sp (pm_nw h (1, N)) b 0 h.1.length) (fillM (gi (pm_nw h (1, N))) h.1.length N (-1))
theorem P0_nil {a k : Nat} (h : PT.getD a [] = []) : P0 a k = 2000 := by unfold P0; rw [h]; rfl
theorem P0_one {a b k : Nat} (h : PT.getD a [] = [b]) : P0 a k = if k = 0 then b else 2000 := by
  unfold P0
  rw [h]
  cases k with
  | zero => rfl
  | succ k => rfl
theorem B.row {n N : Nat} {U : Nat → Nat → Bool} {h : pm_H} (b : B n U h) (t : rowT n N) : B (n + 2) (mkU n U) (r6 (pm_nw h (0, 6)) n N) ∧ ∀ a, a < n → gi (r6 (pm_nw h (0, 6)) n N) a = gi h a := by
  obtain ⟨t1, t2, t3, t4, t5, t6, t7⟩ := t
  have b1 := b.new t1 (Or.inl (by decide))
  have hl1 := b1.len
  have e1 : ∀ a, a ≠ n + 1 → gi (r6 (pm_nw h (0, 6)) n N) a = gi (pm_nw h (0, 6)) a := fun a ha => by
    funext j
    show fillM (gi (pm_nw (pm_nw h (0, 6)) (1, N))) (pm_nw h (0, 6)).1.length N (-1) a j = _
    unfold fillM
    rw [hl1, if_neg (fun z => ha z.1)]
    show pm_zr (pm_nw h (0, 6)).2.1 (pm_nw h (0, 6)).1.length 0 a j = _
    unfold pm_zr
    rw [hl1, if_neg ha]
  have e2 : ∀ a, a < n → gi (r6 (pm_nw h (0, 6)) n N) a = gi h a := fun a ha => by
    rw [e1 a (by omega)]
    funext j
    show pm_zr h.2.1 h.1.length 0 a j = _
    unfold pm_zr
    rw [b.len, if_neg (by omega)]
  refine ⟨⟨?_, ?_, fun a k => ?_, fun a M j ha ha2 hk hj => ?_, fun a c j ha hk hz => ?_⟩, e2⟩
  · show (h.1 ++ [(0, 6)]) ++ [(1, N)] = _
    rw [b.1, take_one t1, take_one t2]
  · have := (List.getElem?_eq_some_iff.mp t2).1
    rw [K0_len] at this; omega
  · show pm_u (gp (pm_nw (pm_nw h (0, 6)) (1, N))) n 0 (pm_nw h (0, 6)).1.length a k = _
    rw [hl1]
    unfold pm_u mkU
    by_cases c : a = n
    · rw [if_pos c, if_pos (show a < n + 2 ∧ (if n ≤ a then false else U a k) = false from ⟨by omega, by rw [if_pos (by omega)]⟩), c, P0_one t3]
      by_cases c2 : k = 0
      · rw [if_pos c2, if_pos c2]
      · rw [if_neg c2, if_neg c2]
        show pm_zr (pm_nw h (0, 6)).2.2.2.2 (pm_nw h (0, 6)).1.length 2000 n k = _
        unfold pm_zr
        rw [hl1, if_neg (by omega)]
        show gp (pm_nw h (0, 6)) n k = _
        rw [b1.2.2.1]
        unfold opU
        rw [if_neg (fun z => by rw [if_pos rfl] at z; cases z.2)]
    · rw [if_neg c]
      show pm_zr (pm_nw h (0, 6)).2.2.2.2 (pm_nw h (0, 6)).1.length 2000 a k = _
      unfold pm_zr
      rw [hl1]
      by_cases c1 : a = n + 1
      · rw [if_pos c1, if_pos (show a < n + 2 ∧ (if n ≤ a then false else U a k) = false from ⟨by omega, by rw [if_pos (by omega)]⟩), c1, P0_nil t4]
      · rw [if_neg c1]
        show gp (pm_nw h (0, 6)) a k = _
        rw [b1.2.2.1]
        unfold opU
        by_cases c2 : a < n
        · rw [if_neg (show ¬ n ≤ a by omega), if_neg c]
          by_cases c3 : U a k = false
          · rw [if_pos ⟨by omega, c3⟩, if_pos ⟨by omega, c3⟩]
          · rw [if_neg (fun z => c3 z.2), if_neg (fun z => c3 z.2)]
        · rw [if_neg (fun z => c2 (by omega)), if_neg (fun z => c2 (by omega))]
  · by_cases c : a = n + 1
    · rw [c, t2] at hk
      cases hk
      rw [c]
      show fillM (gi (pm_nw (pm_nw h (0, 6)) (1, N))) (pm_nw h (0, 6)).1.length N (-1) (n + 1) j = _
      unfold fillM
      rw [hl1, if_pos ⟨rfl, hj⟩]
    · rw [e1 a c]
      exact b1.2.2.2.1 a M j (by omega) ha2 hk hj
  · have c1 : a ≠ n + 1 := fun z => by rw [z, t2] at hk; cases hk
    rw [e1 a c1]
    exact b1.2.2.2.2 a c j (by omega) hk hz
theorem ca_wp {G : pm_G} {d mc ms : Nat} {h : pm_H} {mi : pm_I} {av l : List Value} {Q : pm_H → Prop} (hy : plainName mi.1.cls = true) (hn : (pm_ent av).length ≤ mi.2.2.1) (hl : pm_ent0 av mi.2.2.1 = l) (w : Wp G (mi, d, mc, ms, fun v h1 => v = none ∧ Q h1) (0, 0) 0 l [] h) : ca G d mi mc ms av h Q := ct_of hy hn (hl ▸ w)
section CT0
variable {G : pm_G} {d : Nat} {h : pm_H} {n : Nat} {U : Nat → Nat → Bool}
theorem c6 {b N : Nat} {Q : pm_H → Prop} (h1 : h.1[b]? = some (0, 6)) (hl : h.1.length < 1000) (hN : N ≤ 5000) (k : Q (r6 h b N)) : ca G (d + 2) m_X6_init 1 N [.ref b, .int (nI N)] h Q := by
  have hb : b < h.1.length := (List.getElem?_eq_some_iff.mp h1).1
  have at1 : (pm_nw h (1, N)).1[b]? = some (0, 6) := by
    show (h.1 ++ [(1, N)])[b]? = _
    rw [List.getElem?_append_left hb]; exact h1
  refine ca_wp rfl (Nat.le_of_ble_eq_true rfl) rfl (x_X6_init ⟨hb, ?_⟩)
  rw [if_pos (show (0 : Int32) ≤ nI N from (nI_leI (a := 0) (by decide) (by omega)).mpr (Nat.zero_le _))]
  refine ⟨hl, N, nI_pos (by omega), cl_nI (by omega), hN, Nat.le_refl _, ?_⟩
  rintro _ rfl
  refine ⟨at1, ?_⟩
  rintro _ rfl
  have ro : Ro (sp (pm_nw h (1, N)) b 0 h.1.length) b h.1.length N := by
    refine ⟨at1, ?_, ?_, by omega⟩
    · show pm_u _ b 0 h.1.length b 0 = _
      rw [pm_u_at]; exact if_pos rfl
    · show (h.1 ++ [(1, N)])[h.1.length]? = _
      rw [List.getElem?_append_right (Nat.le_refl _), Nat.sub_self]; rfl
  exact row_fill (d := d) ro ⟨rfl, k⟩
/-- `new Row` and its constructor, as they stand in the rows -/
theorem c_row {N : Nat} {Q : pm_H → Prop} (b : B n U h) (t : rowT n N) (k : ∀ h', B (n + 2) (mkU n U) h' → (∀ a, a < n → gi h' a = gi h a) → Q h') : (pm_nw h (0, 6)).1[h.1.length]? = some (0, 6) ∧ ca G (d + 2) m_X6_init 1 N [.ref h.1.length, .int (nI N)] (pm_nw h (0, 6)) Q := by
  have e : (pm_nw h (0, 6)).1[h.1.length]? = some (0, 6) := by
    show (h.1 ++ [(0, 6)])[h.1.length]? = _
    rw [List.getElem?_append_right (Nat.le_refl _), Nat.sub_self]; rfl
  have b1 := b.new t.1 (Or.inl (by decide))
  obtain ⟨x, y⟩ := b.row t
  refine ⟨e, c6 (d := d) e (by have := b1.len; have := b1.2.1; omega) t.2.2.2.2.1 ?_⟩
  rw [b.len]
  exact k _ x y
theorem B.lt {n : Nat} {U : Nat → Nat → Bool} {h : pm_H} (b : B n U h) : h.1.length < 1000 := by
  have := b.len
  have := b.2.1
  omega
end CT0
