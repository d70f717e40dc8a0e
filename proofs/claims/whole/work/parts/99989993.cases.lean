/-! THE LAW: cases -/
section LAC
variable {G : pm_G} {d : Nat} {post : pm_PT} {h : pm_H} {s : Sta} {w k1 k2 : Nat} {l4 : Int32}
theorem kk_item (hk1 : k1 ≤ 601024) (hk2 : k2 ≤ 7293034) (I : LI h s w) (W : 20 ≤ w ∧ w + 100 ≤ 1000) (V : ∀ j, 1 ≤ j → j ≤ 6 → vp_in (l4 + nI j) (gN G)) (K : ∀ h' s', LI h' s' (w + 1) → Wp G (mL, d + 60 + 1, 601024, 7293034, post) (k1, k2) 23 [.ref 1200, .ref 0, .ref 446, .ref 463, .int (l4 + 7), .null, .null] [] h') : Wp G (mL, d + 60 + 1, 601024, 7293034, post) (k1, k2) 369 [.ref 1200, .ref 0, .ref 446, .ref 463, .int l4, .null, .null] [] h := by
  obtain ⟨i, r, ok, T⟩ := I
  refine x_L_law_369 (d := d + 60) hk1 hk2 ⟨V 1 (by decide) (by decide), V 2 (by decide) (by decide), i.la.own.1, c_item (d := d + 56) i ok  ⟨V 1 (by decide) (by decide), V 2 (by decide) (by decide), i.la.md.1, q_item (d := d + 55) r ok (by omega) (fun h4 i4 f4 => ?_)⟩⟩
  rw [if_pos rfl]
  exact K h4 s ⟨i.keep f4, i4, ok.mono (Nat.le_succ w), T⟩
theorem kk_heap (hk1 : k1 ≤ 601024) (hk2 : k2 ≤ 7293034) (I : LI h s w) (W : 20 ≤ w ∧ w + 100 ≤ 1000) (V : ∀ j, 1 ≤ j → j ≤ 6 → vp_in (l4 + nI j) (gN G)) (K : ∀ h' s', LI h' s' (w + 1) → Wp G (mL, d + 60 + 1, 601024, 7293034, post) (k1, k2) 23 [.ref 1200, .ref 0, .ref 446, .ref 463, .int (l4 + 7), .null, .null] [] h') : Wp G (mL, d + 60 + 1, 601024, 7293034, post) (k1, k2) 406 [.ref 1200, .ref 0, .ref 446, .ref 463, .int l4, .null, .null] [] h := by
  obtain ⟨i, r, ok, T⟩ := I
  refine x_L_law_406 (d := d + 60) hk1 hk2 ⟨V 1 (by decide) (by decide), V 2 (by decide) (by decide), i.la.own.1, c_heap (d := d + 56) i ok  ⟨V 1 (by decide) (by decide), V 2 (by decide) (by decide), i.la.md.1, q_heap (d := d + 39) r ok (by omega) (fun h4 i4 f4 => ?_)⟩⟩
  rw [if_pos rfl]
  exact K h4 s ⟨i.keep f4, i4, ok.mono (Nat.le_succ w), T⟩
theorem kk_tree (hk1 : k1 ≤ 601024) (hk2 : k2 ≤ 7293034) (I : LI h s w) (W : 20 ≤ w ∧ w + 100 ≤ 1000) (V : ∀ j, 1 ≤ j → j ≤ 6 → vp_in (l4 + nI j) (gN G)) (K : ∀ h' s', LI h' s' (w + 1) → Wp G (mL, d + 60 + 1, 601024, 7293034, post) (k1, k2) 23 [.ref 1200, .ref 0, .ref 446, .ref 463, .int (l4 + 7), .null, .null] [] h') : Wp G (mL, d + 60 + 1, 601024, 7293034, post) (k1, k2) 443 [.ref 1200, .ref 0, .ref 446, .ref 463, .int l4, .null, .null] [] h := by
  obtain ⟨i, r, ok, T⟩ := I
  refine x_L_law_443 (d := d + 60) hk1 hk2 ⟨V 1 (by decide) (by decide), V 2 (by decide) (by decide), V 3 (by decide) (by decide), i.la.own.1, c_tree (d := d + 56) i ok (by omega) ⟨V 1 (by decide) (by decide), V 2 (by decide) (by decide), V 3 (by decide) (by decide), i.la.md.1, q_tree (d := d + 40) r ok (by omega) (fun h4 i4 f4 => ?_)⟩⟩
  rw [if_pos rfl]
  exact K h4 s ⟨i.keep f4, i4, ok.mono (Nat.le_succ w), T⟩
theorem kk_listed (hk1 : k1 ≤ 601024) (hk2 : k2 ≤ 7293034) (I : LI h s w) (W : 20 ≤ w ∧ w + 100 ≤ 1000) (V : ∀ j, 1 ≤ j → j ≤ 6 → vp_in (l4 + nI j) (gN G)) (K : ∀ h' s', LI h' s' (w + 1) → Wp G (mL, d + 60 + 1, 601024, 7293034, post) (k1, k2) 23 [.ref 1200, .ref 0, .ref 446, .ref 463, .int (l4 + 7), .null, .null] [] h') : Wp G (mL, d + 60 + 1, 601024, 7293034, post) (k1, k2) 492 [.ref 1200, .ref 0, .ref 446, .ref 463, .int l4, .null, .null] [] h := by
  obtain ⟨i, r, ok, T⟩ := I
  refine x_L_law_492 (d := d + 60) hk1 hk2 ⟨V 1 (by decide) (by decide), V 2 (by decide) (by decide), V 3 (by decide) (by decide), i.la.own.1, c_listed (d := d + 56) i ok  ⟨V 1 (by decide) (by decide), V 2 (by decide) (by decide), V 3 (by decide) (by decide), i.la.md.1, q_listed (d := d + 40) r ok (by omega) (fun h4 i4 f4 => ?_)⟩⟩
  rw [if_pos rfl]
  exact K h4 s ⟨i.keep f4, i4, ok.mono (Nat.le_succ w), T⟩
theorem kk_shelf (hk1 : k1 ≤ 601024) (hk2 : k2 ≤ 7293034) (I : LI h s w) (W : 20 ≤ w ∧ w + 100 ≤ 1000) (V : ∀ j, 1 ≤ j → j ≤ 6 → vp_in (l4 + nI j) (gN G)) (K : ∀ h' s', LI h' s' (w + 1) → Wp G (mL, d + 60 + 1, 601024, 7293034, post) (k1, k2) 23 [.ref 1200, .ref 0, .ref 446, .ref 463, .int (l4 + 7), .null, .null] [] h') : Wp G (mL, d + 60 + 1, 601024, 7293034, post) (k1, k2) 541 [.ref 1200, .ref 0, .ref 446, .ref 463, .int l4, .null, .null] [] h := by
  obtain ⟨i, r, ok, T⟩ := I
  refine x_L_law_541 (d := d + 60) hk1 hk2 ⟨V 1 (by decide) (by decide), i.la.own.1, c_shelf (d := d + 56) i ok  ⟨V 1 (by decide) (by decide), i.la.md.1, q_shelf (d := d + 40) r ok  (fun h4 i4 f4 => ?_)⟩⟩
  rw [if_pos rfl]
  exact K h4 s ⟨i.keep f4, i4, ok.mono (Nat.le_succ w), T⟩
theorem kk_select (hk1 : k1 ≤ 601024) (hk2 : k2 ≤ 7293034) (I : LI h s w) (W : 20 ≤ w ∧ w + 100 ≤ 1000) (V : ∀ j, 1 ≤ j → j ≤ 6 → vp_in (l4 + nI j) (gN G)) (K : ∀ h' s', LI h' s' (w + 1) → Wp G (mL, d + 60 + 1, 601024, 7293034, post) (k1, k2) 23 [.ref 1200, .ref 0, .ref 446, .ref 463, .int (l4 + 7), .null, .null] [] h') : Wp G (mL, d + 60 + 1, 601024, 7293034, post) (k1, k2) 951 [.ref 1200, .ref 0, .ref 446, .ref 463, .int l4, .null, .null] [] h := by
  obtain ⟨i, r, ok, T⟩ := I
  refine x_L_law_951 (d := d + 60) hk1 hk2 ⟨V 1 (by decide) (by decide), V 2 (by decide) (by decide), i.la.own.1, c_select (d := d + 55) i ok  ⟨V 1 (by decide) (by decide), V 2 (by decide) (by decide), i.la.md.1, q_select (d := d + 40) r ok  (fun h4 i4 f4 => ?_)⟩⟩
  rw [if_pos rfl]
  exact K h4 s ⟨i.keep f4, i4, ok.mono (Nat.le_succ w), T⟩
theorem kk_bits (hk1 : k1 ≤ 601024) (hk2 : k2 ≤ 7293034) (I : LI h s w) (W : 20 ≤ w ∧ w + 100 ≤ 1000) (V : ∀ j, 1 ≤ j → j ≤ 6 → vp_in (l4 + nI j) (gN G)) (K : ∀ h' s', LI h' s' (w + 1) → Wp G (mL, d + 60 + 1, 601024, 7293034, post) (k1, k2) 23 [.ref 1200, .ref 0, .ref 446, .ref 463, .int (l4 + 7), .null, .null] [] h') : Wp G (mL, d + 60 + 1, 601024, 7293034, post) (k1, k2) 1112 [.ref 1200, .ref 0, .ref 446, .ref 463, .int l4, .null, .null] [] h := by
  obtain ⟨i, r, ok, T⟩ := I
  refine x_L_law_1112 (d := d + 60) hk1 hk2 ⟨V 1 (by decide) (by decide), i.la.own.1, c_bits (d := d + 56) i ok  ⟨V 1 (by decide) (by decide), i.la.md.1, q_bits (d := d + 40) r ok  (fun h4 i4 f4 => ?_)⟩⟩
  rw [if_pos rfl]
  exact K h4 s ⟨i.keep f4, i4, ok.mono (Nat.le_succ w), T⟩
theorem kk_thou (hk1 : k1 ≤ 601024) (hk2 : k2 ≤ 7293034) (I : LI h s w) (W : 20 ≤ w ∧ w + 100 ≤ 1000) (V : ∀ j, 1 ≤ j → j ≤ 6 → vp_in (l4 + nI j) (gN G)) (K : ∀ h' s', LI h' s' (w + 1) → Wp G (mL, d + 60 + 1, 601024, 7293034, post) (k1, k2) 23 [.ref 1200, .ref 0, .ref 446, .ref 463, .int (l4 + 7), .null, .null] [] h') : Wp G (mL, d + 60 + 1, 601024, 7293034, post) (k1, k2) 1137 [.ref 1200, .ref 0, .ref 446, .ref 463, .int l4, .null, .null] [] h := by
  obtain ⟨i, r, ok, T⟩ := I
  refine x_L_law_1137 (d := d + 60) hk1 hk2 ⟨V 1 (by decide) (by decide), i.la.own.1, c_thou (d := d + 56) i ok  ⟨V 1 (by decide) (by decide), i.la.md.1, q_thou (d := d + 40) r ok  (fun h4 i4 f4 => ?_)⟩⟩
  rw [if_pos rfl]
  exact K h4 s ⟨i.keep f4, i4, ok.mono (Nat.le_succ w), T⟩
theorem kk_lift (hk1 : k1 ≤ 601024) (hk2 : k2 ≤ 7293034) (I : LI h s w) (W : 20 ≤ w ∧ w + 100 ≤ 1000) (V : ∀ j, 1 ≤ j → j ≤ 6 → vp_in (l4 + nI j) (gN G)) (K : ∀ h' s', LI h' s' (w + 1) → Wp G (mL, d + 60 + 1, 601024, 7293034, post) (k1, k2) 23 [.ref 1200, .ref 0, .ref 446, .ref 463, .int (l4 + 7), .null, .null] [] h') : Wp G (mL, d + 60 + 1, 601024, 7293034, post) (k1, k2) 1162 [.ref 1200, .ref 0, .ref 446, .ref 463, .int l4, .null, .null] [] h := by
  obtain ⟨i, r, ok, T⟩ := I
  refine x_L_law_1162 (d := d + 60) hk1 hk2 ⟨V 1 (by decide) (by decide), i.la.own.1, c_lift (d := d + 57) i ok T ⟨V 1 (by decide) (by decide), i.la.md.1, q_lift (d := d + 56) r ok (by omega) T (fun h4 i4 f4 => ?_)⟩⟩
  rw [if_pos rfl]
  exact K h4 s ⟨i.keep f4, i4, ok.mono (Nat.le_succ w), T⟩
theorem kk_bound (hk1 : k1 ≤ 601024) (hk2 : k2 ≤ 7293034) (I : LI h s w) (W : 20 ≤ w ∧ w + 100 ≤ 1000) (V : ∀ j, 1 ≤ j → j ≤ 6 → vp_in (l4 + nI j) (gN G)) (K : ∀ h' s', LI h' s' (w + 1) → Wp G (mL, d + 60 + 1, 601024, 7293034, post) (k1, k2) 23 [.ref 1200, .ref 0, .ref 446, .ref 463, .int (l4 + 7), .null, .null] [] h') : Wp G (mL, d + 60 + 1, 601024, 7293034, post) (k1, k2) 1187 [.ref 1200, .ref 0, .ref 446, .ref 463, .int l4, .null, .null] [] h := by
  obtain ⟨i, r, ok, T⟩ := I
  refine x_L_law_1187 (d := d + 60) hk1 hk2 ⟨V 1 (by decide) (by decide), i.la.own.1, c_bound (d := d + 56) i ok  ⟨V 1 (by decide) (by decide), i.la.md.1, q_bound (d := d + 39) r ok (by omega) (fun h4 i4 f4 => ?_)⟩⟩
  rw [if_pos rfl]
  exact K h4 s ⟨i.keep f4, i4, ok.mono (Nat.le_succ w), T⟩
theorem kk_depth (hk1 : k1 ≤ 601024) (hk2 : k2 ≤ 7293034) (I : LI h s w) (W : 20 ≤ w ∧ w + 100 ≤ 1000) (V : ∀ j, 1 ≤ j → j ≤ 6 → vp_in (l4 + nI j) (gN G)) (K : ∀ h' s', LI h' s' (w + 1) → Wp G (mL, d + 60 + 1, 601024, 7293034, post) (k1, k2) 23 [.ref 1200, .ref 0, .ref 446, .ref 463, .int (l4 + 7), .null, .null] [] h') : Wp G (mL, d + 60 + 1, 601024, 7293034, post) (k1, k2) 1212 [.ref 1200, .ref 0, .ref 446, .ref 463, .int l4, .null, .null] [] h := by
  obtain ⟨i, r, ok, T⟩ := I
  refine x_L_law_1212 (d := d + 60) hk1 hk2 ⟨V 1 (by decide) (by decide), i.la.own.1, c_depth (d := d + 56) i ok (by omega) ⟨V 1 (by decide) (by decide), i.la.md.1, q_depth (d := d + 40) r ok (by omega) (fun h4 i4 f4 => ?_)⟩⟩
  rw [if_pos rfl]
  exact K h4 s ⟨i.keep f4, i4, ok.mono (Nat.le_succ w), T⟩
theorem kk_count (hk1 : k1 ≤ 601024) (hk2 : k2 ≤ 7293034) (I : LI h s w) (W : 20 ≤ w ∧ w + 100 ≤ 1000) (V : ∀ j, 1 ≤ j → j ≤ 6 → vp_in (l4 + nI j) (gN G)) (K : ∀ h' s', LI h' s' (w + 1) → Wp G (mL, d + 60 + 1, 601024, 7293034, post) (k1, k2) 23 [.ref 1200, .ref 0, .ref 446, .ref 463, .int (l4 + 7), .null, .null] [] h') : Wp G (mL, d + 60 + 1, 601024, 7293034, post) (k1, k2) 1430 [.ref 1200, .ref 0, .ref 446, .ref 463, .int l4, .null, .null] [] h := by
  obtain ⟨i, r, ok, T⟩ := I
  refine x_L_law_1430 (d := d + 60) hk1 hk2 ⟨V 1 (by decide) (by decide), i.la.own.1, c_count (d := d + 56) i ok  ⟨V 1 (by decide) (by decide), i.la.md.1, q_count (d := d + 40) r ok (by omega) (fun h4 i4 f4 => ?_)⟩⟩
  rw [if_pos rfl]
  exact K h4 s ⟨i.keep f4, i4, ok.mono (Nat.le_succ w), T⟩
theorem okSta_shS {x : Int32} (ok : okSta s w) : okSta (shS s x) w := by
  show okSta (if inB (pHn (sP s)) x = true then stN s (sN s + 1) else s) w
  split
  · exact okSta_stN ok
  · exact ok
theorem okT_shS {x : Int32} (T : okT s) : okT (shS s x) := by
  show okT (if inB (pHn (sP s)) x = true then stN s (sN s + 1) else s)
  split
  · exact T
  · exact T
theorem okSta_daS {x y z : Int32} (ok : okSta s w) : okSta (daS s x y z) (w + 1) := by
  show okSta (if dayB x y z = true then stN s (sN s + 1) else s) (w + 1)
  split
  · exact (okSta_stN ok).mono (Nat.le_succ w)
  · exact ok.mono (Nat.le_succ w)
theorem okT_daS {x y z : Int32} (T : okT s) : okT (daS s x y z) := by
  show okT (if dayB x y z = true then stN s (sN s + 1) else s)
  split
  · exact T
  · exact T
theorem kk_first (hk1 : k1 ≤ 601024) (hk2 : k2 ≤ 7293034) (I : LI h s w) (W : 20 ≤ w ∧ w + 100 ≤ 1000) (V : ∀ j, 1 ≤ j → j ≤ 6 → vp_in (l4 + nI j) (gN G)) (K : ∀ h' s', LI h' s' (w + 1) → Wp G (mL, d + 60 + 1, 601024, 7293034, post) (k1, k2) 23 [.ref 1200, .ref 0, .ref 446, .ref 463, .int (l4 + 7), .null, .null] [] h') : Wp G (mL, d + 60 + 1, 601024, 7293034, post) (k1, k2) 740 [.ref 1200, .ref 0, .ref 446, .ref 463, .int l4, .null, .null] [] h := by
  obtain ⟨i, r, ok, T⟩ := I
  refine x_L_law_740 (d := d + 60) hk1 hk2 ⟨V 1 (by decide) (by decide), i.la.own.1, c_first (d := d + 54) i ok (by omega) (fun h2 i2 f2 => ⟨V 1 (by decide) (by decide), i2.la.md.1, ?_⟩)⟩
  refine q_first (d := d + 40) (r.keep f2) ok (by omega) (fun h4 i4 f4 => ?_)
  rw [if_pos rfl]
  exact K h4 _ ⟨i2.keep f4, i4, (okSta_shS ok).mono (Nat.le_succ w), okT_shS T⟩
theorem kk_wrongs (hk1 : k1 ≤ 601024) (hk2 : k2 ≤ 7293034) (I : LI h s w) (W : 20 ≤ w ∧ w + 100 ≤ 1000) (V : ∀ j, 1 ≤ j → j ≤ 6 → vp_in (l4 + nI j) (gN G)) (K : ∀ h' s', LI h' s' (w + 1) → Wp G (mL, d + 60 + 1, 601024, 7293034, post) (k1, k2) 23 [.ref 1200, .ref 0, .ref 446, .ref 463, .int (l4 + 7), .null, .null] [] h') : Wp G (mL, d + 60 + 1, 601024, 7293034, post) (k1, k2) 901 [.ref 1200, .ref 0, .ref 446, .ref 463, .int l4, .null, .null] [] h := by
  obtain ⟨i, r, ok, T⟩ := I
  refine x_L_law_901 (d := d + 60) hk1 hk2 ⟨V 1 (by decide) (by decide), i.la.own.1, c_wrongs (d := d + 54) i ok (by omega) (fun h2 i2 f2 => ⟨V 1 (by decide) (by decide), i2.la.md.1, ?_⟩)⟩
  refine q_wrongs (d := d + 38) (r.keep f2) ok (by omega) (fun h4 i4 f4 => ?_)
  rw [if_pos rfl]
  exact K h4 _ ⟨i2.keep f4, i4, (okSta_shS ok).mono (Nat.le_succ w), okT_shS T⟩
theorem kk_far (hk1 : k1 ≤ 601024) (hk2 : k2 ≤ 7293034) (I : LI h s w) (W : 20 ≤ w ∧ w + 100 ≤ 1000) (V : ∀ j, 1 ≤ j → j ≤ 6 → vp_in (l4 + nI j) (gN G)) (K : ∀ h' s', LI h' s' (w + 1) → Wp G (mL, d + 60 + 1, 601024, 7293034, post) (k1, k2) 23 [.ref 1200, .ref 0, .ref 446, .ref 463, .int (l4 + 7), .null, .null] [] h') : Wp G (mL, d + 60 + 1, 601024, 7293034, post) (k1, k2) 926 [.ref 1200, .ref 0, .ref 446, .ref 463, .int l4, .null, .null] [] h := by
  obtain ⟨i, r, ok, T⟩ := I
  refine x_L_law_926 (d := d + 60) hk1 hk2 ⟨V 1 (by decide) (by decide), i.la.own.1, c_far (d := d + 54) i ok (by omega) (fun h2 i2 f2 => ⟨V 1 (by decide) (by decide), i2.la.md.1, ?_⟩)⟩
  refine q_far (d := d + 38) (r.keep f2) ok (by omega) (fun h4 i4 f4 => ?_)
  rw [if_pos rfl]
  exact K h4 _ ⟨i2.keep f4, i4, (okSta_shS ok).mono (Nat.le_succ w), okT_shS T⟩
theorem kk_split (hk1 : k1 ≤ 601024) (hk2 : k2 ≤ 7293034) (I : LI h s w) (W : 20 ≤ w ∧ w + 100 ≤ 1000) (V : ∀ j, 1 ≤ j → j ≤ 6 → vp_in (l4 + nI j) (gN G)) (K : ∀ h' s', LI h' s' (w + 1) → Wp G (mL, d + 60 + 1, 601024, 7293034, post) (k1, k2) 23 [.ref 1200, .ref 0, .ref 446, .ref 463, .int (l4 + 7), .null, .null] [] h') : Wp G (mL, d + 60 + 1, 601024, 7293034, post) (k1, k2) 988 [.ref 1200, .ref 0, .ref 446, .ref 463, .int l4, .null, .null] [] h := by
  obtain ⟨i, r, ok, T⟩ := I
  refine x_L_law_988 (d := d + 60) hk1 hk2 ⟨V 1 (by decide) (by decide), V 2 (by decide) (by decide), i.la.own.1, c_split (d := d + 53) i ok (by omega) (fun h2 i2 f2 => ⟨V 1 (by decide) (by decide), V 2 (by decide) (by decide), i2.la.md.1, ?_⟩)⟩
  refine q_split (d := d + 38) (r.keep f2) ok (by omega) (fun h4 i4 f4 => ?_)
  rw [if_pos rfl]
  exact K h4 _ ⟨i2.keep f4, i4, (okSta_shS ok).mono (Nat.le_succ w), okT_shS T⟩
theorem kk_steps (hk1 : k1 ≤ 601024) (hk2 : k2 ≤ 7293034) (I : LI h s w) (W : 20 ≤ w ∧ w + 100 ≤ 1000) (V : ∀ j, 1 ≤ j → j ≤ 6 → vp_in (l4 + nI j) (gN G)) (K : ∀ h' s', LI h' s' (w + 1) → Wp G (mL, d + 60 + 1, 601024, 7293034, post) (k1, k2) 23 [.ref 1200, .ref 0, .ref 446, .ref 463, .int (l4 + 7), .null, .null] [] h') : Wp G (mL, d + 60 + 1, 601024, 7293034, post) (k1, k2) 1025 [.ref 1200, .ref 0, .ref 446, .ref 463, .int l4, .null, .null] [] h := by
  obtain ⟨i, r, ok, T⟩ := I
  refine x_L_law_1025 (d := d + 60) hk1 hk2 ⟨V 1 (by decide) (by decide), V 2 (by decide) (by decide), i.la.own.1, c_steps (d := d + 51) i ok (by omega) (fun h2 i2 f2 => ⟨V 1 (by decide) (by decide), V 2 (by decide) (by decide), i2.la.md.1, ?_⟩)⟩
  refine q_steps (d := d + 36) (r.keep f2) ok (by omega) (fun h4 i4 f4 => ?_)
  rw [if_pos rfl]
  exact K h4 _ ⟨i2.keep f4, i4, (okSta_shS ok).mono (Nat.le_succ w), okT_shS T⟩
theorem kk_worth (hk1 : k1 ≤ 601024) (hk2 : k2 ≤ 7293034) (I : LI h s w) (W : 20 ≤ w ∧ w + 100 ≤ 1000) (V : ∀ j, 1 ≤ j → j ≤ 6 → vp_in (l4 + nI j) (gN G)) (K : ∀ h' s', LI h' s' (w + 1) → Wp G (mL, d + 60 + 1, 601024, 7293034, post) (k1, k2) 23 [.ref 1200, .ref 0, .ref 446, .ref 463, .int (l4 + 7), .null, .null] [] h') : Wp G (mL, d + 60 + 1, 601024, 7293034, post) (k1, k2) 1062 [.ref 1200, .ref 0, .ref 446, .ref 463, .int l4, .null, .null] [] h := by
  obtain ⟨i, r, ok, T⟩ := I
  refine x_L_law_1062 (d := d + 60) hk1 hk2 ⟨V 1 (by decide) (by decide), i.la.own.1, c_worth (d := d + 54) i ok (by omega) r.ky (fun h2 i2 f2 => ⟨V 1 (by decide) (by decide), i2.la.md.1, ?_⟩)⟩
  have hp : PlC h2 3 (sP s) := by
    have e := i2.pl
    revert e
    show PlC h2 3 (sP (if inB (pHn (sP s)) _ = true then stN s (sN s + 1) else s)) → _
    split <;> exact id
  refine q_worth (d := d + 38) (r.keep f2) ok (by omega) (fun t ht => (hp.2.2.2.2.1 t ht).2.2) (fun h4 i4 f4 => ?_)
  rw [if_pos rfl]
  exact K h4 _ ⟨i2.keep f4, i4, (okSta_shS ok).mono (Nat.le_succ w), okT_shS T⟩
theorem kk_mean (hk1 : k1 ≤ 601024) (hk2 : k2 ≤ 7293034) (I : LI h s w) (W : 20 ≤ w ∧ w + 100 ≤ 1000) (V : ∀ j, 1 ≤ j → j ≤ 6 → vp_in (l4 + nI j) (gN G)) (K : ∀ h' s', LI h' s' (w + 1) → Wp G (mL, d + 60 + 1, 601024, 7293034, post) (k1, k2) 23 [.ref 1200, .ref 0, .ref 446, .ref 463, .int (l4 + 7), .null, .null] [] h') : Wp G (mL, d + 60 + 1, 601024, 7293034, post) (k1, k2) 1087 [.ref 1200, .ref 0, .ref 446, .ref 463, .int l4, .null, .null] [] h := by
  obtain ⟨i, r, ok, T⟩ := I
  refine x_L_law_1087 (d := d + 60) hk1 hk2 ⟨V 1 (by decide) (by decide), i.la.own.1, c_mean (d := d + 54) i ok (by omega) r.ky (fun h2 i2 f2 => ⟨V 1 (by decide) (by decide), i2.la.md.1, ?_⟩)⟩
  have hp : PlC h2 3 (sP s) := by
    have e := i2.pl
    revert e
    show PlC h2 3 (sP (if inB (pHn (sP s)) _ = true then stN s (sN s + 1) else s)) → _
    split <;> exact id
  refine q_mean (d := d + 38) (r.keep f2) ok (by omega) (fun t ht => (hp.2.2.2.2.1 t ht).2.2) (fun h4 i4 f4 => ?_)
  rw [if_pos rfl]
  exact K h4 _ ⟨i2.keep f4, i4, (okSta_shS ok).mono (Nat.le_succ w), okT_shS T⟩
theorem kk_who (hk1 : k1 ≤ 601024) (hk2 : k2 ≤ 7293034) (I : LI h s w) (W : 20 ≤ w ∧ w + 100 ≤ 1000) (V : ∀ j, 1 ≤ j → j ≤ 6 → vp_in (l4 + nI j) (gN G)) (K : ∀ h' s', LI h' s' (w + 1) → Wp G (mL, d + 60 + 1, 601024, 7293034, post) (k1, k2) 23 [.ref 1200, .ref 0, .ref 446, .ref 463, .int (l4 + 7), .null, .null] [] h') : Wp G (mL, d + 60 + 1, 601024, 7293034, post) (k1, k2) 1302 [.ref 1200, .ref 0, .ref 446, .ref 463, .int l4, .null, .null] [] h := by
  obtain ⟨i, r, ok, T⟩ := I
  refine x_L_law_1302 (d := d + 60) hk1 hk2 ⟨i.la.own.1, c_who (d := d + 53) i ok (by omega) (fun h2 i2 f2 => ⟨i2.la.md.1, ?_⟩)⟩
  refine q_who (d := d + 36) (r.keep f2) ok (by omega) (fun h4 i4 f4 => ?_)
  rw [if_pos rfl]
  exact K h4 _ ⟨i2.keep f4, i4, (okSta_stN ok).mono (Nat.le_succ w), T⟩
theorem kk_ask (hk1 : k1 ≤ 601024) (hk2 : k2 ≤ 7293034) (I : LI h s w) (W : 20 ≤ w ∧ w + 100 ≤ 1000) (V : ∀ j, 1 ≤ j → j ≤ 6 → vp_in (l4 + nI j) (gN G)) (K : ∀ h' s', LI h' s' (w + 1) → Wp G (mL, d + 60 + 1, 601024, 7293034, post) (k1, k2) 23 [.ref 1200, .ref 0, .ref 446, .ref 463, .int (l4 + 7), .null, .null] [] h') : Wp G (mL, d + 60 + 1, 601024, 7293034, post) (k1, k2) 1315 [.ref 1200, .ref 0, .ref 446, .ref 463, .int l4, .null, .null] [] h := by
  obtain ⟨i, r, ok, T⟩ := I
  refine x_L_law_1315 (d := d + 60) hk1 hk2 ⟨i.la.own.1, c_ask (d := d + 53) i ok (by omega) (fun h2 i2 f2 => ⟨i2.la.md.1, ?_⟩)⟩
  refine q_ask (d := d + 36) (r.keep f2) ok (by omega) (fun h4 i4 f4 => ?_)
  rw [if_pos rfl]
  exact K h4 _ ⟨i2.keep f4, i4, (okSta_stN ok).mono (Nat.le_succ w), T⟩
theorem kk_days (hk1 : k1 ≤ 601024) (hk2 : k2 ≤ 7293034) (I : LI h s w) (W : 20 ≤ w ∧ w + 100 ≤ 1000) (V : ∀ j, 1 ≤ j → j ≤ 6 → vp_in (l4 + nI j) (gN G)) (K : ∀ h' s', LI h' s' (w + 1) → Wp G (mL, d + 60 + 1, 601024, 7293034, post) (k1, k2) 23 [.ref 1200, .ref 0, .ref 446, .ref 463, .int (l4 + 7), .null, .null] [] h') : Wp G (mL, d + 60 + 1, 601024, 7293034, post) (k1, k2) 1328 [.ref 1200, .ref 0, .ref 446, .ref 463, .int l4, .null, .null] [] h := by
  obtain ⟨i, r, ok, T⟩ := I
  refine x_L_law_1328 (d := d + 60) hk1 hk2 ⟨V 1 (by decide) (by decide), V 2 (by decide) (by decide), V 3 (by decide) (by decide), i.la.own.1, c_days (d := d + 52) i ok (by omega) (fun h2 i2 f2 => ⟨V 1 (by decide) (by decide), V 2 (by decide) (by decide), V 3 (by decide) (by decide), i2.la.md.1, ?_⟩)⟩
  refine q_days (d := d + 31) (r.keep f2) ok (by omega) (fun h4 i4 f4 => ?_)
  rw [if_pos rfl]
  exact K h4 _ ⟨i2.keep f4, i4, okSta_daS ok, okT_daS T⟩
theorem kk_judged (hk1 : k1 ≤ 601024) (hk2 : k2 ≤ 7293034) (I : LI h s w) (W : 20 ≤ w ∧ w + 100 ≤ 1000) (V : ∀ j, 1 ≤ j → j ≤ 6 → vp_in (l4 + nI j) (gN G)) (K : ∀ h' s', LI h' s' (w + 1) → Wp G (mL, d + 60 + 1, 601024, 7293034, post) (k1, k2) 23 [.ref 1200, .ref 0, .ref 446, .ref 463, .int (l4 + 7), .null, .null] [] h') : Wp G (mL, d + 60 + 1, 601024, 7293034, post) (k1, k2) 715 [.ref 1200, .ref 0, .ref 446, .ref 463, .int l4, .null, .null] [] h := by
  obtain ⟨i, r, ok, T⟩ := I
  refine x_L_law_715 (d := d + 60) hk1 hk2 ⟨V 1 (by decide) (by decide), i.la.own.1, c_judged (d := d + 51) i ok  (fun h2 i2 f2 => ⟨V 1 (by decide) (by decide), i2.la.md.1, ?_⟩)⟩
  refine q_judged (d := d + 32) (r.keep f2) ok  (fun h4 i4 f4 => ?_)
  rw [if_pos rfl]
  exact K h4 _ ⟨i2.keep f4, i4, ok.mono (Nat.le_succ w), T⟩
theorem kk_put (hk1 : k1 ≤ 601024) (hk2 : k2 ≤ 7293034) (I : LI h s w) (W : 20 ≤ w ∧ w + 100 ≤ 1000) (V : ∀ j, 1 ≤ j → j ≤ 6 → vp_in (l4 + nI j) (gN G)) (K : ∀ h' s', LI h' s' (w + 1) → Wp G (mL, d + 60 + 1, 601024, 7293034, post) (k1, k2) 23 [.ref 1200, .ref 0, .ref 446, .ref 463, .int (l4 + 7), .null, .null] [] h') : Wp G (mL, d + 60 + 1, 601024, 7293034, post) (k1, k2) 566 [.ref 1200, .ref 0, .ref 446, .ref 463, .int l4, .null, .null] [] h := by
  obtain ⟨i, r, ok, T⟩ := I
  refine x_L_law_566 (d := d + 60) hk1 hk2 ⟨V 1 (by decide) (by decide), V 2 (by decide) (by decide), i.la.own.1, c_put (d := d + 53) i ok (by omega) (fun h2 i2 f2 => ⟨V 1 (by decide) (by decide), V 2 (by decide) (by decide), i2.la.md.1, ?_⟩)⟩
  refine q_put (d := d + 37) (r.keep f2) ok (by omega) (fun h4 i4 f4 => ?_)
  rw [if_pos rfl]
  exact K h4 _ ⟨i2.keep f4, i4, okSta_put ok (by omega), okT_put ok (by omega) T⟩
theorem kk_take (hk1 : k1 ≤ 601024) (hk2 : k2 ≤ 7293034) (I : LI h s w) (W : 20 ≤ w ∧ w + 100 ≤ 1000) (V : ∀ j, 1 ≤ j → j ≤ 6 → vp_in (l4 + nI j) (gN G)) (K : ∀ h' s', LI h' s' (w + 1) → Wp G (mL, d + 60 + 1, 601024, 7293034, post) (k1, k2) 23 [.ref 1200, .ref 0, .ref 446, .ref 463, .int (l4 + 7), .null, .null] [] h') : Wp G (mL, d + 60 + 1, 601024, 7293034, post) (k1, k2) 603 [.ref 1200, .ref 0, .ref 446, .ref 463, .int l4, .null, .null] [] h := by
  obtain ⟨i, r, ok, T⟩ := I
  refine x_L_law_603 (d := d + 60) hk1 hk2 ⟨V 1 (by decide) (by decide), i.la.own.1, c_take (d := d + 55) i ok (by omega) (fun h2 i2 f2 => ⟨V 1 (by decide) (by decide), i2.la.md.1, ?_⟩)⟩
  refine q_take (d := d + 39) (r.keep f2) ok (by omega) (fun h4 i4 f4 => ?_)
  rw [if_pos rfl]
  exact K h4 _ ⟨i2.keep f4, i4, okSta_take ok (by omega), okT_take ok T⟩
theorem kk_meld (hk1 : k1 ≤ 601024) (hk2 : k2 ≤ 7293034) (I : LI h s w) (W : 20 ≤ w ∧ w + 100 ≤ 1000) (V : ∀ j, 1 ≤ j → j ≤ 6 → vp_in (l4 + nI j) (gN G)) (K : ∀ h' s', LI h' s' (w + 1) → Wp G (mL, d + 60 + 1, 601024, 7293034, post) (k1, k2) 23 [.ref 1200, .ref 0, .ref 446, .ref 463, .int (l4 + 7), .null, .null] [] h') : Wp G (mL, d + 60 + 1, 601024, 7293034, post) (k1, k2) 628 [.ref 1200, .ref 0, .ref 446, .ref 463, .int l4, .null, .null] [] h := by
  obtain ⟨i, r, ok, T⟩ := I
  refine x_L_law_628 (d := d + 60) hk1 hk2 ⟨V 1 (by decide) (by decide), V 2 (by decide) (by decide), i.la.own.1, c_meld (d := d + 53) i ok (by omega) (fun h2 i2 f2 => ⟨V 1 (by decide) (by decide), V 2 (by decide) (by decide), i2.la.md.1, ?_⟩)⟩
  refine q_meld (d := d + 37) (r.keep f2) ok (by omega) (fun h4 i4 f4 => ?_)
  rw [if_pos rfl]
  exact K h4 _ ⟨i2.keep f4, i4, okSta_meld ok (by omega), okT_meld ok (by omega) T⟩
theorem kk_shelve (hk1 : k1 ≤ 601024) (hk2 : k2 ≤ 7293034) (I : LI h s w) (W : 20 ≤ w ∧ w + 100 ≤ 1000) (V : ∀ j, 1 ≤ j → j ≤ 6 → vp_in (l4 + nI j) (gN G)) (K : ∀ h' s', LI h' s' (w + 1) → Wp G (mL, d + 60 + 1, 601024, 7293034, post) (k1, k2) 23 [.ref 1200, .ref 0, .ref 446, .ref 463, .int (l4 + 7), .null, .null] [] h') : Wp G (mL, d + 60 + 1, 601024, 7293034, post) (k1, k2) 665 [.ref 1200, .ref 0, .ref 446, .ref 463, .int l4, .null, .null] [] h := by
  obtain ⟨i, r, ok, T⟩ := I
  refine x_L_law_665 (d := d + 60) hk1 hk2 ⟨V 1 (by decide) (by decide), V 2 (by decide) (by decide), i.la.own.1, c_shelve (d := d + 54) i ok (by omega) (fun h2 i2 f2 => ⟨V 1 (by decide) (by decide), V 2 (by decide) (by decide), i2.la.md.1, ?_⟩)⟩
  refine q_shelve (d := d + 38) (r.keep f2) ok (by omega) (fun h4 i4 f4 => ?_)
  rw [if_pos rfl]
  exact K h4 _ ⟨i2.keep f4, i4, okSta_shelve ok (by omega), okT_shelve ok T⟩
theorem kk_undo (hk1 : k1 ≤ 601024) (hk2 : k2 ≤ 7293034) (I : LI h s w) (W : 20 ≤ w ∧ w + 100 ≤ 1000) (V : ∀ j, 1 ≤ j → j ≤ 6 → vp_in (l4 + nI j) (gN G)) (K : ∀ h' s', LI h' s' (w + 1) → Wp G (mL, d + 60 + 1, 601024, 7293034, post) (k1, k2) 23 [.ref 1200, .ref 0, .ref 446, .ref 463, .int (l4 + 7), .null, .null] [] h') : Wp G (mL, d + 60 + 1, 601024, 7293034, post) (k1, k2) 702 [.ref 1200, .ref 0, .ref 446, .ref 463, .int l4, .null, .null] [] h := by
  obtain ⟨i, r, ok, T⟩ := I
  refine x_L_law_702 (d := d + 60) hk1 hk2 ⟨i.la.own.1, c_undo (d := d + 57) i ok  (fun h2 i2 f2 => ⟨i2.la.md.1, ?_⟩)⟩
  refine q_undo (d := d + 58) (r.keep f2) ok  (fun h4 i4 f4 => ?_)
  rw [if_pos rfl]
  exact K h4 _ ⟨i2.keep f4, i4, (okSta_undo ok).mono (Nat.le_succ w), okT_undo T⟩
end LAC
