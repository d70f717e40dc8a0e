/-! away: the class -/
section CXD
variable {G : pm_G} {d : Nat} {h : pm_H} {s : Sta} {w : Nat}
theorem c_away {x y : Int32} {Q : Int32 → pm_H → Prop} {px : pm_H → Prop} (i : InvC h s) (ok : okSta s w) (hw : w ≤ 1000) (k : ∀ h' r, InvC h' (shS s x) → FrA h h' → aAway s x y = some r → Q r h') (kx : ∀ h', InvC h' (shS s x) → FrA h h' → aAway s x y = none → px h') : cx G (d + 6) m_X11_away [.ref 0, .int x, .int y] h Q px := by
  have n3 := ok.n3
  unfold aAway at k kx
  obtain ⟨o1, -⟩ := i.la.own
  refine cx_wp rfl (Nat.le_of_ble_eq_true rfl) rfl (x_X11_away (d := d) ⟨o1, c_shutHeap (d := d + 3) i ok.pl (fun c => ?_) (fun c h1 _ i1 f1 => ?_)⟩)
  · rw [if_pos rfl]
    exact kx h (by rw [show shS s x = s from if_neg (by rw [c]; decide)]; exact i) FrA.rfl' (by rw [c, if_neg (by decide)])
  · rw [show shS s x = stN s (sN s + 1) from if_pos c] at k kx
    rw [if_neg (by decide)]
    obtain ⟨o1, o0, o_1, o_2, o3, o4, o5, o6, o7, -⟩ := i1.la.own
    obtain ⟨t0, t1, t2, t3, t4, t5, t6, t7, t8, t9⟩ := i1.la.tri
    have hF : Fa h1 59 := fa_of i1.la (by decide)
    rcases inB_or (n := pHn (sP s)) x (by omega) with c' | ⟨a, ha, rfl, c', cx⟩
    · rw [c] at c'; cases c'
    rw [if_pos c, cx] at k kx
    obtain ⟨l1, l2, l3⟩ := InvC.lens ok hw ha
    refine ⟨o1, c_isItem (d := d + 4) i1 ok.pl ?_⟩
    rcases inB_or (n := pN (sP s)) y (by omega) with c2 | ⟨b, hb, rfl, c2, cy⟩
    · rw [show inB (pN (sP (stN s (sN s + 1)))) y = false from c2, if_pos b0f]
      exact kx _ i1 f1 (by rw [c2, if_neg (by decide)])
    · rw [show inB (pN (sP (stN s (sN s + 1)))) (nI b) = true from c2, if_neg b1t, o6]
      rw [if_pos c2, cy] at k kx
      have b20 : b < 20 := by omega
      refine ⟨o1, hF.1, f_at13 (d := d + 4) hF ?_⟩
      rw [rd_in b20 (by decide), show gi h1 (59 + 26) b = (sA s).2.1 b from (i1.cf.2 b b20).1]
      by_cases c3 : (sA s).2.1 b = nI a
      · rw [if_pos c3] at k
        rw [if_pos c3, o7, o6]
        refine ⟨o1, t0, c_all (d := d) i1 (okSta_stN ok) hw ha (fun M' hO i2 f2 => ?_)⟩
        have hO : Ord M' (cmL s a) := hO
        have f9 := f1.trans f2
        rw [show gp (sm h1 M') 0 7 = 90 from o7]
        refine ⟨o1, t0, s_awayOf (d := d + 2) (h := sm h1 M') i2.la hO l1 l2 b20 ?_⟩
        rw [away_agr (i2.pl.agr ok.pl).2 l3 hb]
        exact ⟨_, rfl, k _ _ i2 f9 rfl⟩
      · rw [if_neg c3] at kx
        rw [if_neg c3]
        exact kx _ i1 f1 rfl
end CXD
