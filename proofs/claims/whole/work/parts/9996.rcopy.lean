/-! THE REFERENCE: a draft becomes the QUEUE -/
theorem CE.shift {z z' : Nat → Int32} : ∀ {ops : List Op} {i i' : Nat}, CE z i ops → (∀ j, j < ops.length → z' (i' + j) = z (i + j)) → CE z' i' ops
  | [], _, _, _, _ => trivial
  | o :: r, i, i', ⟨h1, h2⟩, e => ⟨(e 0 (by rw [List.length_cons]; omega)).trans h1, h2.shift (fun j hj => by
      have := e (j + 1) (by rw [List.length_cons]; omega)
      rw [show i' + 1 + j = i' + (j + 1) by omega, show i + 1 + j = i + (j + 1) by omega]; exact this)⟩
def FrC (h h' : pm_H) : Prop := h'.1 = h.1 ∧ (∀ a, a ≠ 452 → a ≠ 453 → gi h' a = gi h a) ∧ (∀ a, a ≠ 454 → gj h' a = gj h a) ∧ gf h' = gf h ∧ gp h' = gp h
theorem FrC.la {h h' : pm_H} (f : FrC h h') (hL : La h) : La h' := ⟨f.1.trans hL.1, fun a k hx => (congrFun (congrFun f.2.2.2.2 a) k).trans (hL.2 a k hx)⟩
theorem PlR.copy {h h' : pm_H} {P : Pl} {c : Nat} (hP : PlR h 90 25 1100 P) (hO : PlO P) (hc : c = if pFg P = true then (pLw P).length + 1 else 0) (hg : pFg P = false → pLw P = []) (e2 : ∀ j, j < 90 → gi h' 452 j = gi h 452 (90 + j)) (e3 : ∀ j, j < c → gi h' 453 j = gi h 453 (1100 + j)) (e4 : ∀ j, j < 25 → gj h' 454 j = gj h 454 (25 + j)) : PlR h' 0 0 0 P := by
  obtain ⟨q1, q2, q3, q4, q5, q6, q7, q8, q9, q10⟩ := hP
  obtain ⟨-, -, -, o4, o5, o6, -⟩ := hO
  obtain ⟨ls, li⟩ := pl_lens P
  refine ⟨(e2 0 (by decide)).trans q1, (e2 1 (by decide)).trans q2, (e2 2 (by decide)).trans q3, (e2 3 (by decide)).trans q4, fun i hi => ?_, fun i hi => ?_, fun i hi => ?_, fun i hi => ?_, fun i hi => ?_, ?_⟩
  · rw [e4 (0 + i) (by omega), show 25 + (0 + i) = 25 + i by omega]; exact q5 i hi
  · rw [e4 (0 + 3 + i) (by omega), show 25 + (0 + 3 + i) = 25 + 3 + i by omega]; exact q6 i hi
  · rw [e4 (0 + 5 + i) (by omega), show 25 + (0 + 5 + i) = 25 + 5 + i by omega]; exact q7 i hi
  · rw [e2 (0 + 5 + i) (by omega), show 90 + (0 + 5 + i) = 90 + 5 + i by omega]; exact q8 i hi
  · obtain ⟨a1, a2, a3, a4⟩ := q9 i hi
    rw [e2 (0 + 7 + 4 * i) (by omega), e2 (0 + 7 + 4 * i + 1) (by omega), e2 (0 + 7 + 4 * i + 2) (by omega), e2 (0 + 7 + 4 * i + 3) (by omega), show 90 + (0 + 7 + 4 * i) = 90 + 7 + 4 * i by omega, show 90 + (0 + 7 + 4 * i + 1) = 90 + 7 + 4 * i + 1 by omega, show 90 + (0 + 7 + 4 * i + 2) = 90 + 7 + 4 * i + 2 by omega, show 90 + (0 + 7 + 4 * i + 3) = 90 + 7 + 4 * i + 3 by omega]
    exact ⟨a1, a2, a3, a4⟩
  · unfold LwR at q10 ⊢
    by_cases n : pLw P = []
    · rw [if_pos n] at q10 ⊢
      exact (e2 4 (by decide)).trans q10
    · rw [if_neg n] at q10 ⊢
      obtain ⟨u1, u2, u3⟩ := q10
      have f : pFg P = true := by
        cases hf : pFg P with
        | true => rfl
        | false => exact absurd (hg hf) n
      rw [if_pos f] at hc
      refine ⟨(e2 4 (by decide)).trans u1, u2.shift (fun j hj => ?_), ?_⟩
      · rw [Nat.zero_add]; exact e3 j (by omega)
      · rw [Nat.zero_add]; exact (e3 _ (by omega)).trans u3
section RCP
variable {G : pm_G} {d : Nat} {h : pm_H} {P : Pl}
theorem r_copies {post : pm_PT} (hL : La h) (hP : PlR h 90 25 1100 P) (hX : PlX h P) (hO : PlG P) (k : ∀ h', FrC h h' → PlR h' 0 0 0 P → cv G d m_X12_begins [.ref 446] h' (fun h2 => post (some (.int 0)) h2)) : Wp G (m_X12_queue, d + 1, 0, 0, post) (0, 0) 66 [.ref 446, .int 0] [] h := by
  have ll := hO.1.2.2.2.2.2.2.2.2.1
  generalize hc : (if pFg P = true then (pLw P).length + 1 else 0) = c at *
  have x2 : gi h 446 12 = nI c := by rw [hX.2, hc]
  have cl : c ≤ 1001 := by rw [← hc]; split <;> omega
  -- names
  have st3 : ∀ h2 : pm_H, FrC h h2 → (∀ j, j < 90 → gi h2 452 j = gi h 452 (90 + j)) → (∀ j, j < c → gi h2 453 j = gi h 453 (1100 + j)) → gj h2 454 = gj h 454 → Wp G (m_X12_queue, d + 1, 0, 0, post) (0, 0) 127 [.ref 446, .int 0] [] h2 := by
    intro h2 f2 a2 a3 a4
    have key := up_to (P := fun n => ∀ h1 : pm_H, FrC h h1 → (∀ j, j < 90 → gi h1 452 j = gi h 452 (90 + j)) → (∀ j, j < c → gi h1 453 j = gi h 453 (1100 + j)) → (∀ j, gj h1 454 j = if j < n then gj h 454 (25 + j) else gj h 454 j) → Wp G (m_X12_queue, d + 1, 0, 0, post) (0, 0) 127 [.ref 446, .int (nI n)] [] h1) 25 (fun n hn ih => ?_) ?_
    · exact key h2 f2 a2 a3 (fun j => by rw [if_neg (by omega), a4])
    · intro h1 f1 b2 b3 b4
      have hL1 := f1.la hL
      obtain ⟨m1, m2, m3, m4⟩ := hL1.nms
      refine x_X12_queue_127 ?_
      rw [if_neg (li_no 25 25 rfl hn (by decide)), m1, show (25 : Int32) = nI 25 from rfl, nI_add, nI_1, cl_nI (show n < 2 ^ 31 by omega), cl_nI (show 25 + n < 2 ^ 31 by omega)]
      refine ⟨hL1.md.1, 50, m2, vp_nI (by omega) (by decide), vp_nI (by omega) (by decide), ?_⟩
      rintro _ rfl
      refine ih _ ⟨f1.1, f1.2.1, fun a ha => (pm_u_ne _ _ _ ha).trans (f1.2.2.1 a ha), f1.2.2.2.1, f1.2.2.2.2⟩ b2 b3 (fun j => ?_)
      show pm_u (gj h1) 454 n (gj h1 454 (25 + n)) 454 j = _
      rw [pm_u_at]
      unfold pm_ui
      by_cases e : j = n
      · rw [if_pos e, b4, if_neg (by omega), if_pos (by omega), e]
      · rw [if_neg e, b4]
        by_cases e2 : j < n
        · rw [if_pos e2, if_pos (by omega)]
        · rw [if_neg e2, if_neg (by omega)]
    · intro h1 f1 b2 b3 b4
      refine x_X12_queue_127 ?_
      rw [if_pos (li_yes 25 25 rfl)]
      exact ⟨(f1.la hL).md.1, k h1 f1 (hP.copy hO.1 hc.symm hO.2 b2 b3 (fun j hj => by rw [b4, if_pos hj]))⟩
  -- the law's code
  have st2 : ∀ h2 : pm_H, FrC h h2 → (∀ j, j < 90 → gi h2 452 j = gi h 452 (90 + j)) → gi h2 453 = gi h 453 → gj h2 454 = gj h 454 → Wp G (m_X12_queue, d + 1, 0, 0, post) (0, 0) 95 [.ref 446, .int 0] [] h2 := by
    intro h2 f2 a2 a3 a4
    have key := up_to (P := fun n => ∀ h1 : pm_H, FrC h h1 → (∀ j, j < 90 → gi h1 452 j = gi h 452 (90 + j)) → (∀ j, gi h1 453 j = if j < n then gi h 453 (1100 + j) else gi h 453 j) → gj h1 454 = gj h 454 → Wp G (m_X12_queue, d + 1, 0, 0, post) (0, 0) 95 [.ref 446, .int (nI n)] [] h1) c (fun n hn ih => ?_) ?_
    · exact key h2 f2 a2 (fun j => by rw [if_neg (by omega), a3]) a4
    · intro h1 f1 b2 b3 b4
      have hL1 := f1.la hL
      obtain ⟨-, -, p11, q53⟩ := hL1.rd
      refine x_X12_queue_95 ⟨hL1.md.1, ?_⟩
      rw [f1.2.1 446 (by decide) (by decide), x2, if_neg (show ¬ nI c ≤ nI n from nI_nlen hn (by omega)), p11, show (1100 : Int32) = nI 1100 from rfl, nI_add, nI_1, cl_nI (show n < 2 ^ 31 by omega), cl_nI (show 1100 + n < 2 ^ 31 by omega)]
      refine ⟨2200, q53, vp_nI (by omega) (by decide), vp_nI (by omega) (by decide), ?_⟩
      rintro _ rfl
      refine ih _ ⟨f1.1, fun a h1' h2' => (pm_u_ne _ _ _ h2').trans (f1.2.1 a h1' h2'), f1.2.2.1, f1.2.2.2.1, f1.2.2.2.2⟩ (fun j hj => (congrFun (pm_u_ne (gi h1) n (gi h1 453 (1100 + n)) (show 452 ≠ 453 by decide)) j).trans (b2 j hj)) (fun j => ?_) b4
      show pm_u (gi h1) 453 n (gi h1 453 (1100 + n)) 453 j = _
      rw [pm_u_at]
      unfold pm_ui
      by_cases e : j = n
      · rw [if_pos e, b3, if_neg (by omega), if_pos (by omega), e]
      · rw [if_neg e, b3]
        by_cases e2 : j < n
        · rw [if_pos e2, if_pos (by omega)]
        · rw [if_neg e2, if_neg (by omega)]
    · intro h1 f1 b2 b3 b4
      refine x_X12_queue_95 ⟨(f1.la hL).md.1, ?_⟩
      rw [f1.2.1 446 (by decide) (by decide), x2, if_pos (Int32.le_refl _)]
      exact st3 h1 f1 b2 (fun j hj => by rw [b3, if_pos hj]) b4
  have key := up_to (P := fun n => ∀ h1 : pm_H, FrC h h1 → (∀ j, gi h1 452 j = if j < n then gi h 452 (90 + j) else gi h 452 j) → gi h1 453 = gi h 453 → gj h1 454 = gj h 454 → Wp G (m_X12_queue, d + 1, 0, 0, post) (0, 0) 66 [.ref 446, .int (nI n)] [] h1) 90 (fun n hn ih => ?_) ?_
  · exact key h ⟨rfl, fun _ _ _ => rfl, fun _ _ => rfl, rfl, rfl⟩ (fun j => by rw [if_neg (by omega)]) rfl rfl
  · intro h1 f1 b2 b3 b4
    have hL1 := f1.la hL
    obtain ⟨m1, m2, m3, m4⟩ := hL1.nms
    refine x_X12_queue_66 ?_
    rw [if_neg (li_no 90 90 rfl hn (by decide)), m3, show (90 : Int32) = nI 90 from rfl, nI_add, nI_1, cl_nI (show n < 2 ^ 31 by omega), cl_nI (show 90 + n < 2 ^ 31 by omega)]
    refine ⟨hL1.md.1, 180, m4, vp_nI (by omega) (by decide), vp_nI (by omega) (by decide), ?_⟩
    rintro _ rfl
    refine ih _ ⟨f1.1, fun a h1' h2' => (pm_u_ne _ _ _ h1').trans (f1.2.1 a h1' h2'), f1.2.2.1, f1.2.2.2.1, f1.2.2.2.2⟩ (fun j => ?_) (w2_53.trans b3) b4
    rw [w2_at]
    by_cases e : j = n
    · rw [if_pos e, b2, if_neg (by omega), if_pos (by omega), e]
    · rw [if_neg e, b2]
      by_cases e2 : j < n
      · rw [if_pos e2, if_pos (by omega)]
      · rw [if_neg e2, if_neg (by omega)]
  · intro h1 f1 b2 b3 b4
    refine x_X12_queue_66 ?_
    rw [if_pos (li_yes 90 90 rfl)]
    exact st2 h1 f1 (fun j hj => by rw [b2, if_pos hj]) b3 b4
end RCP
