/-! THE LAW: comes, away -/
section LAE
variable {G : pm_G} {d : Nat} {post : pm_PT} {h : pm_H} {s : Sta} {w k1 k2 : Nat} {l4 : Int32}
theorem InvR_sl {v : Int64} (i : InvR h s) : InvR (sl h 463 0 v) s := by
  obtain ⟨i1, i2, ⟨i3, i4⟩, i5, i6, i7, i8, i9, i10, i11, i12⟩ := i
  exact ⟨i1, fun w hw => (congrFun (pm_u_ne (gj h) 0 v (show (451 : Nat) ≠ 463 by decide)) w).trans (i2 w hw), ⟨i3, i4⟩, i5.same rfl rfl (pm_u_ne (gj h) 0 v (show (454 : Nat) ≠ 463 by decide)), i6, i7, i8, i9, i10, i11, i12⟩
theorem FrB_sl {v : Int64} : FrB h (sl h 463 0 v) := ⟨rfl, fun _ _ => rfl, fun a ha => pm_u_ne (gj h) 0 v (by omega), rfl, rfl⟩
theorem q_thrown {Q : Int32 → pm_H → Prop} (hL : La h) (k : Q (gi h 446 0) h) : ci G (d + 1) m_X12_thrown [.ref 446] h Q := ci_wp rfl (Nat.le_of_ble_eq_true rfl) rfl (x_X12_thrown ⟨hL.md.1, _, rfl, k⟩)
theorem kk_comes (hk1 : k1 + 1 ≤ 601024) (hk2 : k2 + 6 ≤ 7293034) (I : LI h s w) (W : 20 ≤ w ∧ w + 100 ≤ 1000) (V : ∀ j, 1 ≤ j → j ≤ 6 → vp_in (l4 + nI j) (gN G)) (K : ∀ h' s', LI h' s' (w + 1) → Wp G (mL, d + 60 + 1, 601024, 7293034, post) (k1 + 1, k2 + 6) 23 [.ref 1200, .ref 0, .ref 446, .ref 463, .int (l4 + 7), .null, .null] [] h') : Wp G (mL, d + 60 + 1, 601024, 7293034, post) (k1, k2) 765 [.ref 1200, .ref 0, .ref 446, .ref 463, .int l4, .null, .null] [] h := by
  obtain ⟨i, r, ok, T⟩ := I
  refine x_L_law_765 (d := d + 60) (by omega) (by omega) ⟨V 1 (by decide) (by decide), V 2 (by decide) (by decide), hk1, hk2, l_comes (d := d + 53) i ok (by omega) (fun h' r1 i2 f2 e => ?_) (fun h2 i2 f2 e => ?_)⟩
  · have r2 : InvR (sl h' 463 0 r1.toInt64) s := InvR_sl (r.keep f2)
    have i3 := i2.keep (FrB_sl (h := h') (v := r1.toInt64))
    have gj3 : gj (sl h' 463 0 r1.toInt64) 463 0 = r1.toInt64 := by
      show pm_u (gj h') 463 0 r1.toInt64 463 0 = _
      rw [pm_u_at]; exact if_pos rfl
    generalize sl h' 463 0 r1.toInt64 = h2 at *
    refine ⟨V 1 (by decide) (by decide), V 2 (by decide) (by decide), i3.la.md.1, q_comes2 (d := d + 38) r2 ok (by omega) (fun h4 r3 i4 f4 z0 zv => ⟨i4.la.md.1, q_thrown (d := d + 59) i4.la ?_⟩)⟩
    rw [z0, e]
    rw [show (if (some r1 : Option Int32).isSome = true then (0 : Int32) else 1) = 0 from rfl, if_pos rfl, if_pos rfl, zv r1 e]
    refine ⟨1, i4.la.k (by decide +kernel), vp_nI (k := 0) (by decide) (by decide), ?_⟩
    rw [show gj h4 463 (0 : Int32).toNatClampNeg = r1.toInt64 from (congrFun f4.2 0).trans gj3, if_pos (lg0.mpr rfl)]
    exact K h4 _ ⟨i3.keep f4.1, i4, (okSta_shS ok).mono (Nat.le_succ w), okT_shS T⟩
  · refine ⟨V 1 (by decide) (by decide), V 2 (by decide) (by decide), i2.la.md.1, q_comes2 (d := d + 38) (r.keep f2) ok (by omega) (fun h4 r3 i4 f4 z0 zv => ⟨i4.la.md.1, q_thrown (d := d + 59) i4.la ?_⟩)⟩
    rw [z0, e]
    rw [show (if (none : Option Int32).isSome = true then (0 : Int32) else 1) = 1 from rfl, if_pos rfl, if_neg (by decide)]
    exact K h4 _ ⟨i2.keep f4.1, i4, (okSta_shS ok).mono (Nat.le_succ w), okT_shS T⟩
theorem kk_away (hk1 : k1 + 1 ≤ 601024) (hk2 : k2 + 6 ≤ 7293034) (I : LI h s w) (W : 20 ≤ w ∧ w + 100 ≤ 1000) (V : ∀ j, 1 ≤ j → j ≤ 6 → vp_in (l4 + nI j) (gN G)) (K : ∀ h' s', LI h' s' (w + 1) → Wp G (mL, d + 60 + 1, 601024, 7293034, post) (k1 + 1, k2 + 6) 23 [.ref 1200, .ref 0, .ref 446, .ref 463, .int (l4 + 7), .null, .null] [] h') : Wp G (mL, d + 60 + 1, 601024, 7293034, post) (k1, k2) 833 [.ref 1200, .ref 0, .ref 446, .ref 463, .int l4, .null, .null] [] h := by
  obtain ⟨i, r, ok, T⟩ := I
  refine x_L_law_833 (d := d + 60) (by omega) (by omega) ⟨V 1 (by decide) (by decide), V 2 (by decide) (by decide), hk1, hk2, l_away (d := d + 53) i ok (by omega) (fun h' r1 i2 f2 e => ?_) (fun h2 i2 f2 e => ?_)⟩
  · have r2 : InvR (sl h' 463 0 r1.toInt64) s := InvR_sl (r.keep f2)
    have i3 := i2.keep (FrB_sl (h := h') (v := r1.toInt64))
    have gj3 : gj (sl h' 463 0 r1.toInt64) 463 0 = r1.toInt64 := by
      show pm_u (gj h') 463 0 r1.toInt64 463 0 = _
      rw [pm_u_at]; exact if_pos rfl
    generalize sl h' 463 0 r1.toInt64 = h2 at *
    refine ⟨V 1 (by decide) (by decide), V 2 (by decide) (by decide), i3.la.md.1, q_away2 (d := d + 38) r2 ok (by omega) (fun h4 r3 i4 f4 z0 zv => ⟨i4.la.md.1, q_thrown (d := d + 59) i4.la ?_⟩)⟩
    rw [z0, e]
    rw [show (if (some r1 : Option Int32).isSome = true then (0 : Int32) else 1) = 0 from rfl, if_pos rfl, if_pos rfl, zv r1 e]
    refine ⟨1, i4.la.k (by decide +kernel), vp_nI (k := 0) (by decide) (by decide), ?_⟩
    rw [show gj h4 463 (0 : Int32).toNatClampNeg = r1.toInt64 from (congrFun f4.2 0).trans gj3, if_pos (lg0.mpr rfl)]
    exact K h4 _ ⟨i3.keep f4.1, i4, (okSta_shS ok).mono (Nat.le_succ w), okT_shS T⟩
  · refine ⟨V 1 (by decide) (by decide), V 2 (by decide) (by decide), i2.la.md.1, q_away2 (d := d + 38) (r.keep f2) ok (by omega) (fun h4 r3 i4 f4 z0 zv => ⟨i4.la.md.1, q_thrown (d := d + 59) i4.la ?_⟩)⟩
    rw [z0, e]
    rw [show (if (none : Option Int32).isSome = true then (0 : Int32) else 1) = 1 from rfl, if_pos rfl, if_neg (by decide)]
    exact K h4 _ ⟨i2.keep f4.1, i4, (okSta_shS ok).mono (Nat.le_succ w), okT_shS T⟩
end LAE
