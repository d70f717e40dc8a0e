/-! THE BEGINNING: what stands when both are made -/
abbrev s00 : Sta := qSta pl0
theorem pg00 : PlG pl0 ∧ PlN pl0 ∧ PlB pl0 := ⟨⟨⟨fun l hl => (by cases hl), fun l hl => (by cases hl), fun l hl => (by cases hl), by decide, by decide, by decide, fun x hx => (by cases hx), fun x hx => (by cases hx), by decide, fun q => absurd rfl q, by decide⟩, fun _ => rfl⟩, ⟨fun x y hx => absurd hx (Nat.not_lt_zero x), fun x y hx => absurd hx (Nat.not_lt_zero x), fun x y hx => absurd hx (Nat.not_lt_zero x)⟩, fun o ho => by cases ho⟩
theorem ok00 : okSta s00 20 := by
  refine ⟨TxO_nil, ⟨pg00.1, pg00.2.2⟩, pg00.2.1, ⟨fun q hq => (by cases hq), Nat.zero_le _, fun q hq => (by cases hq)⟩, ?_, fun A hA => (by cases hA), Nat.zero_le _, ⟨fun q hq => (by cases hq), Nat.zero_le _⟩, fun m A sl e => (by cases e)⟩
  exact (okN_tell (lt := ltP pl0) (tvf := tvP pl0) (hm := hmP pl0) (N := pN pl0) (by decide) (tvP_pos pl0) (pN pl0) (Nat.le_refl _) (fun t ht => absurd ht (Nat.not_lt_zero t))).mono (by decide)
theorem okT00 : okT s00 := okT_q pg00.1.1
theorem inv00 {h1 h' : pm_H} (b : B 446 U0 h1) (s2 : gi h1 3 8 = 2) (e1 : h'.1 = K0.take 463) (ep : ∀ a k, gp h' a k = if a < 463 then P0 a k else 2000) (eg : ∀ a, a < 446 → gi h' a = gi (pm_nw h1 (0, 11)) a) (r : R0 h') : InvC (pm_nw h' (2, 1)) s00 ∧ InvR (pm_nw h' (2, 1)) s00 := by
  have len : h'.1.length = 463 := by rw [e1, List.length_take, K0_len]; rfl
  have gF : ∀ a, a ≠ 463 → gi (pm_nw h' (2, 1)) a = gi h' a := fun a ha => by
    funext j
    show pm_zr h'.2.1 h'.1.length 0 a j = _
    unfold pm_zr
    rw [len, if_neg ha]
  have jF : ∀ a, a ≠ 463 → gj (pm_nw h' (2, 1)) a = gj h' a := fun a ha => by
    funext j
    show pm_zr h'.2.2.1 h'.1.length 0 a j = _
    unfold pm_zr
    rw [len, if_neg ha]
  have g1 : ∀ a, a < 446 → gi (pm_nw h' (2, 1)) a = gi h1 a := fun a ha => (gF a (by omega)).trans ((eg a ha).trans (nw_gi b ha))
  have la : La (pm_nw h' (2, 1)) := by
    refine ⟨?_, fun a k _ => ?_⟩
    · show h'.1 ++ [(2, 1)] = K0
      rw [e1, take_one (show K0[463]? = some (2, 1) by decide +kernel), List.take_of_length_le (by rw [K0_len]; exact Nat.le_refl _)]
    · show pm_zr h'.2.2.2.2 h'.1.length 2000 a k = _
      unfold pm_zr
      rw [len]
      by_cases q : a = 463
      · rw [if_pos q, q, P0_nil (show PT.getD 463 [] = [] by decide +kernel)]
      · rw [if_neg q]
        show gp h' a k = _
        rw [ep]
        by_cases q2 : a < 463
        · rw [if_pos q2]
        · rw [if_neg q2]
          exact (P0_nil (by rw [List.getD_eq_getElem?_getD, List.getElem?_eq_none (Nat.le_trans (show PT.length ≤ 464 by decide +kernel) (by omega))]; rfl)).symm
  have row : ∀ a N j, K0[a]? = some (1, N) → a < 446 → j < N → gi (pm_nw h' (2, 1)) a j = -1 := fun a N j e ha hj => by
    rw [g1 a ha]; exact b.2.2.2.1 a N j ha ha e hj
  have obj : ∀ a c j, K0[a]? = some (0, c) → a < 446 → zeC a j → gi (pm_nw h' (2, 1)) a j = 0 := fun a c j e ha hz => by
    rw [g1 a ha]; exact b.2.2.2.2 a c j ha e hz
  have ze : ∀ a j, a ≠ 1 → a ≠ 3 → a ≠ 22 → a ≠ 56 → zeC a j := fun a j x1 x2 x3 x4 => ⟨fun z => x1 z.1, fun z => z.1.elim x2 x3, fun z => x4 z.1⟩
  refine ⟨⟨la, ⟨obj 1 7 1 (by decide +kernel) (by decide) ⟨fun z => absurd z.2 (by decide), fun z => z.1.elim (by decide) (by decide), fun z => absurd z.1 (by decide)⟩, fun j hj => absurd hj (Nat.not_lt_zero j)⟩, ?_, ⟨obj 41 9 3 (by decide +kernel) (by decide) (ze _ _ (by decide) (by decide) (by decide) (by decide)), fun i q hq => by cases hq⟩, ⟨⟨fun q hq => ⟨trivial, row 79 72 q (by decide +kernel) (by decide) hq⟩, trivial, fun j hj _ => row 61 24 j (by decide +kernel) (by decide) hj, fun t ht _ => row 83 20 t (by decide +kernel) (by decide) ht⟩, fun t ht => ⟨row 85 20 t (by decide +kernel) (by decide) ht, row 87 20 t (by decide +kernel) (by decide) ht, row 89 20 t (by decide +kernel) (by decide) ht⟩⟩, ⟨0, by decide, obj 0 10 12 (by decide +kernel) (by decide) (ze _ _ (by decide) (by decide) (by decide) (by decide)), obj 0 10 13 (by decide +kernel) (by decide) (ze _ _ (by decide) (by decide) (by decide) (by decide)), fun i A hA => by cases hA⟩, ⟨obj 0 10 9 (by decide +kernel) (by decide) (ze _ _ (by decide) (by decide) (by decide) (by decide)), fun k s hs => by cases hs⟩, obj 0 10 10 (by decide +kernel) (by decide) (ze _ _ (by decide) (by decide) (by decide) (by decide)), fun m hm => ⟨fun _ => row 135 2 m (by decide +kernel) (by decide) hm, fun A sl e => by cases e⟩⟩, ?_⟩
  · have nm : ∀ o, K0[o]? = some (0, 3) → o < 446 → o ≠ 1 → o ≠ 3 → o ≠ 22 → o ≠ 56 → NmC (pm_nw h' (2, 1)) o [] := fun o e ho x1 x2 x3 x4 => ⟨obj o 3 1 e ho (ze _ _ x1 x2 x3 x4), fun i hi => absurd hi (Nat.not_lt_zero i)⟩
    refine ⟨nm 4 (by decide +kernel) (by decide) (by decide) (by decide) (by decide) (by decide), nm 6 (by decide +kernel) (by decide) (by decide) (by decide) (by decide) (by decide), nm 8 (by decide +kernel) (by decide) (by decide) (by decide) (by decide) (by decide), fun i hi => absurd hi (Nat.not_lt_zero i), fun i hi => absurd hi (Nat.not_lt_zero i), obj 17 1 1 (by decide +kernel) (by decide) (ze _ _ (by decide) (by decide) (by decide) (by decide)), trivial, ?_⟩
    rw [g1 3 (by decide)]; exact s2
  · obtain ⟨r1, r2, r3, r4, r5, r6, r7, r8, r9, r10⟩ := r
    refine ⟨la, fun w hw => ?_, ⟨fun j hj => absurd hj (Nat.not_lt_zero j), ?_⟩, r3.same (gF 452 (by decide)) (gF 453 (by decide)) (jF 454 (by decide)), fun t ht => absurd ht (Nat.not_lt_zero t), ⟨?_, fun i q hq => by cases hq⟩, ?_, ⟨?_, fun i A hA => by cases hA⟩, ⟨?_, fun k s hs => by cases hs⟩, ?_, fun m hm => ⟨fun _ => ?_, fun A sl e => by cases e⟩⟩
    · rw [jF 451 (by decide)]; exact r1 w hw
    · rw [gF 446 (by decide)]; exact r2
    · rw [gF 455 (by decide)]; exact r4
    · rw [gF 460 (by decide), gF 458 (by decide)]; exact r5
    · rw [gF 446 (by decide)]; exact r6
    · rw [gF 458 (by decide)]; exact r7
    · rw [gF 446 (by decide)]; exact r8
    · rw [gF 459 (by decide)]
      rcases (by omega : m = 0 ∨ m = 1) with q | q
      · rw [q]; exact r9
      · rw [q]; exact r10
