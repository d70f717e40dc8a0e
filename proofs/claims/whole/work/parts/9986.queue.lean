/-! THE READER: a whole QUEUE -/
def PlG (P : Pl) : Prop := PlO P ∧ (pFg P = false → pLw P = [])
theorem sm1_len {b : PS} (h : (sm1 b).1 = 0) : (sm1 b).2.length < b.2.length := by
  obtain ⟨h1, h2, h3⟩ := stp_0 h
  have h3 : sm1 b = (0, b.2.tail) := h3
  rw [h3]
  have t : tS 59 (hdT b.2) = true := by
    unfold semi at h1
    by_cases c : tS 59 (hdT b.2) = true
    · exact c
    · rw [if_neg c] at h1; cases h1
  cases hb : b.2 with
  | nil => rw [hb] at t; exact absurd t (by decide)
  | cons x r => show r.length < r.length + 1; omega
theorem alo_sz : Sz (alo (prt 5)) := lvl_sz (lvl_sz (lvl_sz (lvl_sz (prt_sz 5) (by decide)) (by decide)) (by decide)) (by decide)
theorem lineQ_len {s : PS} {P : Pl} (h : (lineQ s P).1.1 = 0) : (lineQ s P).1.2.length < s.2.length := by
  unfold lineQ at h ⊢
  by_cases c1 : tW 1 (hdT s.2) = true
  · rw [if_pos c1] at h ⊢
    exact Nat.lt_of_lt_of_le (sm1_len h) (Nat.le_trans (stp_sm _ _).1 (stp_sm _ _).1)
  rw [if_neg c1] at h ⊢
  by_cases c2 : tW 2 (hdT s.2) = true
  · rw [if_pos c2] at h ⊢
    exact Nat.lt_of_lt_of_le (sm1_len h) (Nat.le_trans (stp_sm _ _).1 (Nat.le_trans (stp_sm _ _).1 (stp_sm _ _).1))
  rw [if_neg c2] at h ⊢
  by_cases c3 : tW 3 (hdT s.2) = true
  · rw [if_pos c3] at h ⊢
    exact Nat.lt_of_lt_of_le (sm1_len h) (Nat.le_trans (stp_sm _ _).1 (Nat.le_trans (stp_sm _ _).1 (Nat.le_trans (stp_sm _ _).1 (Nat.le_trans (stp_sm _ _).1 (Nat.le_trans (stp_sm _ _).1 (Nat.le_trans (stp_sm _ _).1 (Nat.le_trans (stp_sm _ _).1 (stp_sm _ _).1)))))))
  rw [if_neg c3] at h ⊢
  by_cases c4 : tW 6 (hdT s.2) = true
  · rw [if_pos c4] at h ⊢
    exact Nat.lt_of_lt_of_le (sm1_len h) (Nat.le_trans (stp_sm _ _).1 (stp_sm _ _).1)
  rw [if_neg c4] at h ⊢
  by_cases c5 : tW 7 (hdT s.2) = true
  · rw [if_pos c5] at h ⊢
    unfold lineG at h ⊢
    have hs := alo_sm
    generalize alo (prt 5) = al at *
    exact Nat.lt_of_lt_of_le (sm1_len h) (Nat.le_trans (hs _).1 (stp_sm _ _).1)
  rw [if_neg c5] at h ⊢
  unfold wrg at h
  have h : (if s.1 = 0 then ((1, s.2) : PS) else s).1 = 0 := h
  by_cases f : s.1 = 0
  · rw [if_pos f] at h; cases h
  · rw [if_neg f] at h; exact absurd h f
theorem NmO.snoc {ns : List (List Nat)} {nm : List Nat} (h : NmO ns) (h1 : ltr nm ∧ nm.length ≤ 8) : NmO (ns ++ [nm]) := by
  intro l hl
  rcases List.mem_append.mp hl with q | q
  · exact h l q
  · rw [List.mem_singleton] at q
    rw [q]; exact h1
/-- the first name behind a line's first word -/
theorem first_name {s A : PS} {k : Nat} {P : Pl} (hs : TsO s.2) (h0 : (hdT s.2).2.1 ≠ 0) (eA : A = stp k s) (h : (bName P A).1 = 0) : k = 0 ∧ A = (0, s.2.tail) ∧ ltr (hdT A.2).2.2 ∧ (hdT A.2).2.2.length ≤ 8 := by
  obtain ⟨h1, h2, -⟩ := stp_0 h
  obtain ⟨h3, -⟩ := newK_0 h1
  rw [eA] at h2
  obtain ⟨h4, h5, h6⟩ := stp_0 h2
  have e : A = (0, s.2.tail) := eA.trans h6
  refine ⟨h4, e, ?_⟩
  have t : TkO (hdT A.2) := by rw [e]; exact (hs.at.2.1 h0).at.1
  exact t.1 (nameT_sort h3)
theorem lineQ_plg {s : PS} {P : Pl} (hs : TsO s.2) (s0 : s.1 = 0) (hl : s.2.length ≤ 1001) (hP : PlG P) (h : (lineQ s P).1.1 = 0) : PlG (lineQ s P).2 := by
  obtain ⟨⟨p1, p2, p3, p4, p5, p6, p7, p8, p9, p10, p11⟩, pg⟩ := hP
  unfold lineQ at h ⊢
  by_cases c1 : tW 1 (hdT s.2) = true
  · rw [if_pos c1] at h ⊢
    have h0 : (hdT s.2).2.1 ≠ 0 := by rw [tW_sort c1]; decide
    obtain ⟨-, y, -⟩ := stp_0 h
    obtain ⟨x1, x2, x3⟩ := first_name hs h0 rfl y
    have nf : (pH P).length < 3 := by
      by_cases c : 3 ≤ (pH P).length
      · rw [if_pos c] at x1; cases x1
      · omega
    refine ⟨⟨p1.snoc x3, p2, p3, ?_, p5, p6, p7, fun x hx => ?_, p9, p10, p11⟩, pg⟩
    · show (pH P ++ [_]).length ≤ 3
      rw [List.length_append, List.length_singleton]; omega
    · obtain ⟨a, b, c, e, f⟩ := p8 x hx
      refine ⟨a, b, c, e, ?_⟩
      show x.2.2.2.2 < (pH P ++ [_]).length
      rw [List.length_append, List.length_singleton]; omega
  rw [if_neg c1] at h ⊢
  by_cases c2 : tW 2 (hdT s.2) = true
  · rw [if_pos c2] at h ⊢
    have h0 : (hdT s.2).2.1 ≠ 0 := by rw [tW_sort c2]; decide
    obtain ⟨-, y0, -⟩ := stp_0 h
    obtain ⟨yk, y, -⟩ := stp_0 y0
    obtain ⟨kd, kd1, kd2⟩ := kind_0 yk
    obtain ⟨x1, x2, x3⟩ := first_name hs h0 rfl y
    have nf : (pS P).length < 2 := by
      by_cases c : 2 ≤ (pS P).length
      · rw [if_pos c] at x1; cases x1
      · omega
    refine ⟨⟨p1, ?_, p3, p4, ?_, p6, ?_, p8, p9, p10, p11⟩, pg⟩
    · show NmO ((pS P ++ [_]).map _)
      rw [List.map_append]; exact p2.snoc x3
    · show (pS P ++ [_]).length ≤ 2
      rw [List.length_append, List.length_singleton]; omega
    · intro x hx
      rcases List.mem_append.mp hx with q | q
      · exact p7 x q
      · rw [List.mem_singleton] at q
        rw [q, kd1]; exact kd2
  rw [if_neg c2] at h ⊢
  by_cases c3 : tW 3 (hdT s.2) = true
  · rw [if_pos c3] at h ⊢
    have h0 : (hdT s.2).2.1 ≠ 0 := by rw [tW_sort c3]; decide
    obtain ⟨-, y1, -⟩ := stp_0 h
    obtain ⟨z1, y2, -⟩ := stp_0 y1
    obtain ⟨z2, y3, -⟩ := stp_0 y2
    obtain ⟨z3, y4, -⟩ := stp_0 y3
    obtain ⟨z4, y5, -⟩ := stp_0 y4
    obtain ⟨z5, y6, -⟩ := stp_0 y5
    obtain ⟨z6, y, -⟩ := stp_0 y6
    obtain ⟨kd, kd1, kd2⟩ := kind_0 z6
    obtain ⟨u1, u2, u3⟩ := num_0 z5
    obtain ⟨t1, t2, t3⟩ := num_0 z3
    obtain ⟨o1, ⟨hm, o2, o3⟩, -⟩ := old_0 z1
    obtain ⟨x1, x2, x3⟩ := first_name hs h0 rfl y
    have nf : (pI P).length < 20 := by
      by_cases c : 20 ≤ (pI P).length
      · rw [if_pos c] at x1; cases x1
      · omega
    refine ⟨⟨p1, p2, ?_, p4, p5, ?_, p7, ?_, p9, p10, p11⟩, pg⟩
    · show NmO ((pI P ++ [_]).map _)
      rw [List.map_append]; exact p3.snoc x3
    · show (pI P ++ [_]).length ≤ 20
      rw [List.length_append, List.length_singleton]; omega
    · intro x hx
      rcases List.mem_append.mp hx with q | q
      · exact p8 x q
      · rw [List.mem_singleton] at q
        rw [q]
        refine ⟨?_, ?_, ?_, ?_, ?_⟩
        · show (kdT (hdT (iB s P).2)).getD 0 < 4
          rw [show kdT (hdT (iB s P).2) = some kd from kd1]; exact kd2
        · exact Nat.lt_succ_of_le u3
        · exact t2
        · exact Nat.lt_succ_of_le t3
        · show (idN (pH P) (hdT (iG s P).2)).getD 0 < _
          rw [show idN (pH P) (hdT (iG s P).2) = some hm from o2]; exact o3
  rw [if_neg c3] at h ⊢
  by_cases c4 : tW 6 (hdT s.2) = true
  · rw [if_pos c4] at h ⊢
    obtain ⟨-, y1, -⟩ := stp_0 h
    obtain ⟨z1, y2, -⟩ := stp_0 y1
    exact ⟨⟨p1, p2, p3, p4, p5, p6, p7, p8, p9, p10, (num_0 z1).2.2⟩, pg⟩
  rw [if_neg c4] at h ⊢
  by_cases c5 : tW 7 (hdT s.2) = true
  · rw [if_pos c5] at h ⊢
    have h0 : (hdT s.2).2.1 ≠ 0 := by rw [tW_sort c5]; decide
    unfold lineG at h ⊢
    have hz := alo_sz (gwA s P)
    have hsm := alo_sm (gwA s P)
    have hbb := lawE_alo (gwA s P).2
    have ht := hs.at.2.1 h0
    have tl : s.2.tail.length = s.2.length - 1 := List.length_tail
    have a0 : (gwA s P).1 = 0 := by
      by_cases z : (gwA s P).1 = 0
      · exact z
      · have e := hsm.2 z
        generalize alo (prt 5) = al at *
        have h : (sm1 (al (gwA s P)).1).1 = 0 := h
        rw [e] at h
        exact absurd (stp_0 h).2.1 z
    have eA : gwA s P = (0, s.2.tail) := (stp_0 a0).2.2
    have hok : (lawE (gwA s P).2).1 = 0 → okO (lawE (gwA s P).2).2.2 0 := fun q => by
      have := (lawE_ok (ts := (gwA s P).2) (by rw [eA]; exact ht)).2.2.1 q
      exact this.1
    have eA2 : ((0, (gwA s P).2) : PS) = gwA s P := by rw [eA]
    rw [eA2] at hbb
    have tsl : 0 < (alo (prt 5) (gwA s P)).1.2.length := by
      have h : (sm1 (alo (prt 5) (gwA s P)).1).1 = 0 := h
      have := sm1_len h
      omega
    have gl : (gwA s P).2.length ≤ 1000 := by rw [eA]; show s.2.tail.length ≤ 1000; omega
    generalize alo (prt 5) = al at *
    generalize lawE (gwA s P).2 = R at *
    have h : (sm1 (al (gwA s P)).1).1 = 0 := h
    obtain ⟨r1, r2⟩ := hbb.2 h
    have ok := hok r1
    rw [r2] at ok
    exact ⟨⟨p1, p2, p3, p4, p5, p6, p7, p8, show (al (gwA s P)).2.length ≤ 1000 by omega, fun _ => ok, p11⟩, fun q => by cases q⟩
  rw [if_neg c5] at h ⊢
  unfold wrg at h
  have h : (if s.1 = 0 then ((1, s.2) : PS) else s).1 = 0 := h
  rw [if_pos s0] at h; cases h
def qL : Nat → PS → Pl → PS × Pl
  | 0, s, P => (s, P)
  | n + 1, s, P => if s.1 = 0 ∧ (hdT s.2).2.1 ≠ 0 then qL n (lineQ s P).1 (lineQ s P).2 else (s, P)
