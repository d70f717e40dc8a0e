/-! THE LAW: feed, see, mark -/
section LAD
variable {G : pm_G} {d : Nat} {post : pm_PT} {h : pm_H} {s : Sta} {w k1 k2 : Nat} {l4 : Int32}
theorem kk_feed (hk1 : k1 ≤ 601024) (hk2 : k2 ≤ 7293034) (I : LI h s w) (W : 20 ≤ w ∧ w + 100 ≤ 1000) (V : ∀ j, 1 ≤ j → j ≤ 6 → vp_in (l4 + nI j) (gN G)) (K : ∀ h' s', LI h' s' (w + 1) → Wp G (mL, d + 60 + 1, 601024, 7293034, post) (k1, k2) 23 [.ref 1200, .ref 0, .ref 446, .ref 463, .int (l4 + 7), .null, .null] [] h') : Wp G (mL, d + 60 + 1, 601024, 7293034, post) (k1, k2) 196 [.ref 1200, .ref 0, .ref 446, .ref 463, .int l4, .null, .null] [] h := by
  obtain ⟨i, r, ok, T⟩ := I
  refine x_L_law_196 (d := d + 60) hk1 hk2 ⟨V 1 (by decide) (by decide), V 2 (by decide) (by decide), V 3 (by decide) (by decide), V 4 (by decide) (by decide), V 5 (by decide) (by decide), V 6 (by decide) (by decide), i.la.own.1, c_feed (d := d + 58) i ok (fun h2 i2 f2 => ⟨V 1 (by decide) (by decide), V 2 (by decide) (by decide), V 3 (by decide) (by decide), V 4 (by decide) (by decide), V 5 (by decide) (by decide), V 6 (by decide) (by decide), i2.la.md.1, q_feed (d := d + 58) (r.keep f2) ok (fun h4 i4 f4 => ?_)⟩)⟩
  rw [if_pos rfl]
  exact K h4 _ ⟨i2.keep f4, i4, (okSta_feed ok).mono (Nat.le_succ w), okT_feed T⟩
theorem kk_see (hk1 : k1 ≤ 601024) (hk2 : k2 ≤ 7293034) (I : LI h s w) (W : 20 ≤ w ∧ w + 100 ≤ 1000) (V : ∀ j, 1 ≤ j → j ≤ 6 → vp_in (l4 + nI j) (gN G)) (K : ∀ h' s', LI h' s' (w + 1) → Wp G (mL, d + 60 + 1, 601024, 7293034, post) (k1, k2) 23 [.ref 1200, .ref 0, .ref 446, .ref 463, .int (l4 + 7), .null, .null] [] h') : Wp G (mL, d + 60 + 1, 601024, 7293034, post) (k1, k2) 1237 [.ref 1200, .ref 0, .ref 446, .ref 463, .int l4, .null, .null] [] h := by
  obtain ⟨i, r, ok, T⟩ := I
  refine x_L_law_1237 (d := d + 60) hk1 hk2 ⟨V 1 (by decide) (by decide), V 2 (by decide) (by decide), V 3 (by decide) (by decide), ?_⟩
  by_cases c : gX G (l4 + 3 : Int32).toNatClampNeg = 0
  · rw [if_pos c]
    refine ⟨i.la.own.1, c_see (d := d + 58) i ok (fun h2 i2 f2 => ⟨V 1 (by decide) (by decide), V 2 (by decide) (by decide), V 3 (by decide) (by decide), ?_⟩)⟩
    rw [if_pos c]
    refine ⟨i2.la.md.1, q_see (d := d + 58) (r.keep f2) ok (fun h4 i4 f4 => ?_)⟩
    rw [if_pos rfl]
    exact K h4 _ ⟨i2.keep f4, i4, (okSta_see ok).mono (Nat.le_succ w), okT_see T⟩
  · rw [if_neg c]
    refine ⟨i.la.own.1, c_see (d := d + 58) i ok (fun h2 i2 f2 => ⟨V 1 (by decide) (by decide), V 2 (by decide) (by decide), V 3 (by decide) (by decide), ?_⟩)⟩
    rw [if_neg c]
    refine ⟨i2.la.md.1, q_see (d := d + 58) (r.keep f2) ok (fun h4 i4 f4 => ?_)⟩
    rw [if_pos rfl]
    exact K h4 _ ⟨i2.keep f4, i4, (okSta_see ok).mono (Nat.le_succ w), okT_see T⟩
theorem kk_mark (hk1 : k1 ≤ 601024) (hk2 : k2 ≤ 7293034) (I : LI h s w) (W : 20 ≤ w ∧ w + 100 ≤ 1000) (V : ∀ j, 1 ≤ j → j ≤ 6 → vp_in (l4 + nI j) (gN G)) (K : ∀ h' s', LI h' s' (w + 1) → Wp G (mL, d + 60 + 1, 601024, 7293034, post) (k1, k2) 23 [.ref 1200, .ref 0, .ref 446, .ref 463, .int (l4 + 7), .null, .null] [] h') : Wp G (mL, d + 60 + 1, 601024, 7293034, post) (k1, k2) 1377 [.ref 1200, .ref 0, .ref 446, .ref 463, .int l4, .null, .null] [] h := by
  obtain ⟨i, r, ok, T⟩ := I
  refine x_L_law_1377 (d := d + 60) hk1 hk2 ⟨V 1 (by decide) (by decide), V 2 (by decide) (by decide), ?_⟩
  by_cases c : gX G (l4 + 2 : Int32).toNatClampNeg = 0
  · rw [if_pos c]
    refine ⟨i.la.own.1, c_mark (d := d + 56) i ok (fun h2 i2 f2 => ⟨V 1 (by decide) (by decide), V 2 (by decide) (by decide), ?_⟩)⟩
    rw [if_pos c]
    refine ⟨i2.la.md.1, q_mark (d := d + 58) (r.keep f2) ok (fun h4 i4 f4 => ?_)⟩
    rw [if_pos rfl]
    exact K h4 _ ⟨i2.keep f4, i4, (okSta_mark ok).mono (Nat.le_succ w), okT_mark T⟩
  · rw [if_neg c]
    refine ⟨i.la.own.1, c_mark (d := d + 56) i ok (fun h2 i2 f2 => ⟨V 1 (by decide) (by decide), V 2 (by decide) (by decide), ?_⟩)⟩
    rw [if_neg c]
    refine ⟨i2.la.md.1, q_mark (d := d + 58) (r.keep f2) ok (fun h4 i4 f4 => ?_)⟩
    rw [if_pos rfl]
    exact K h4 _ ⟨i2.keep f4, i4, (okSta_mark ok).mono (Nat.le_succ w), okT_mark T⟩
end LAD
