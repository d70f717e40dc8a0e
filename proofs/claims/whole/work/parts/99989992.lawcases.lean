/-! THE LAW: its entry, its cases -/
abbrev mL : pm_I := (yL_law, cL_law, 7, (Option.some Jvm.ClassFile.FieldType.boolean))
def LI (h : pm_H) (s : Sta) (w : Nat) : Prop := InvC h s ∧ InvR h s ∧ okSta s w ∧ okT s
abbrev hh0 : pm_H := ([], fun _ _ => 0, fun _ _ => 0, fun _ _ => 0, fun _ _ => 2000)
theorem B_0 : B 0 U0 hh0 := ⟨rfl, Nat.zero_le _, fun a k => by rw [if_neg (fun z => absurd z.1 (Nat.not_lt_zero a))], fun a N j ha => absurd ha (Nat.not_lt_zero a), fun a c j ha => absurd ha (Nat.not_lt_zero a)⟩
section LAW
variable {G : pm_G} {d : Nat} {post : pm_PT} {h : pm_H} {s : Sta} {w k1 k2 : Nat} {l4 : Int32}
theorem law_entry (k : ∀ h, LI h s00 20 → Wp G (mL, d + 60 + 1, 601024, 7293034, post) (464, 20090) 23 [.ref 1200, .ref 0, .ref 446, .ref 463, .int 0, .null, .null] [] h) : Wp G (mL, d + 60 + 1, 601024, 7293034, post) (0, 0) 0 [.ref 1200, .null, .null, .null, .null, .null, .null] [] hh0 := by
  have b1 := B_0.new (kd := (0, 10)) (by decide +kernel) (Or.inl (show (0 : Nat) ≠ 1 by decide))
  refine x_L_law (d := d + 60) ⟨by decide, ?_⟩
  rintro h1 e1
  rw [← e1] at b1
  refine ⟨b1.at (by decide) (by decide +kernel), cClass (d := d + 55) b1 (fun h3 b3 s3 => ⟨b3.lt, ?_⟩)⟩
  rintro h4 e4
  have b4 := b3.new (kd := (0, 11)) (by decide +kernel) (Or.inl (show (0 : Nat) ≠ 1 by decide))
  rw [← e4] at b4
  rw [b3.len]
  refine ⟨b4.at (by decide) (by decide +kernel), cRef (d := d + 55) b4 (fun h6 x1 x2 x3 x4 => ?_)⟩
  rw [e4] at x3
  have l6 : h6.1.length = 463 := by rw [x1, List.length_take, K0_len]; rfl
  rw [l6]
  refine ⟨by decide, ?_⟩
  rintro _ rfl
  obtain ⟨a, b⟩ := inv00 b3 s3 x1 x2 x3 x4
  exact k _ ⟨a, b, ok00, okT00⟩
theorem k_queue (hk1 : k1 ≤ 601024) (hk2 : k2 ≤ 7293034) (I : LI h s w) (hw : 20 ≤ w) (K : ∀ h' s', LI h' s' (w + 1) → Wp G (mL, d + 60 + 1, 601024, 7293034, post) (k1, k2) 23 [.ref 1200, .ref 0, .ref 446, .ref 463, .int (l4 + 7), .null, .null] [] h') : Wp G (mL, d + 60 + 1, 601024, 7293034, post) (k1, k2) 343 [.ref 1200, .ref 0, .ref 446, .ref 463, .int l4, .null, .null] [] h := by
  obtain ⟨i, r, ok, T⟩ := I
  refine x_L_law_343 (d := d + 60) hk1 hk2 ⟨i.la.own.1, c_queue (d := d + 52) i ok (fun h2 i2 f2 pg => ⟨i2.la.md.1, q_queue (d := d + 23) (r.keep f2) ok (fun h4 i4 f4 pgn => ?_)⟩)⟩
  rw [if_pos rfl]
  exact K h4 _ ⟨i2.keep f4, i4, (okSta_queue ok hw pgn).mono (Nat.le_succ w), okT_queue T pgn⟩
theorem k_work (hk1 : k1 ≤ 601024) (hk2 : k2 ≤ 7293034) (I : LI h s w) (K : ∀ h' s', LI h' s' (w + 1) → Wp G (mL, d + 60 + 1, 601024, 7293034, post) (k1, k2) 23 [.ref 1200, .ref 0, .ref 446, .ref 463, .int (l4 + 7), .null, .null] [] h') : Wp G (mL, d + 60 + 1, 601024, 7293034, post) (k1, k2) 356 [.ref 1200, .ref 0, .ref 446, .ref 463, .int l4, .null, .null] [] h := by
  obtain ⟨i, r, ok, T⟩ := I
  refine x_L_law_356 (d := d + 60) hk1 hk2 ⟨i.la.own.1, c_work (d := d + 52) i ok (fun h2 i2 f2 => ⟨i2.la.md.1, q_work (d := d + 55) (r.keep f2) ok (fun h4 i4 f4 => ?_)⟩)⟩
  rw [if_pos rfl]
  exact K h4 _ ⟨i2.keep f4, i4, (okSta_work ok).mono (Nat.le_succ w), okT_work T⟩
end LAW
