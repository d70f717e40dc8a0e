/-! TELL; the class's questions about a Forest -/
section TLC
variable {G : pm_G} {d : Nat} {h : pm_H} {f : Nat}
theorem s_tell {Q : pm_H → Prop} {tvf : Int32 → Nat → Int32 → Int32} {n : Nat} {hm : Nat → Nat} (hL : La h) (hf : f ∈ FLs) (hpos : ∀ al r t, 0 < tvf al r t) (hTV : TVc G d h tvf) (hn : gi h 8 1 = nI n) (hn2 : n ≤ 20) (hh : ∀ t, t < n → hm t < 3 ∧ gi h 15 t = nI (hm t))
    (k : ∀ M', CF M' f (tellF (kLt (gf h 16)) tvf hm n) → FX (gi h) M' f → Q (sm h M')) : cv G (d + 7) m_X0_tell [.ref f] h Q := by
  have hF := fa_of hL hf
  have hf30 := FLs_30 hf
  refine cv_wp rfl (Nat.le_of_ble_eq_true rfl) rfl (x_X0_tell ⟨hF.1, s_clear (d := d + 4) hF (fun M hM hX => ?_)⟩)
  have key := up_to (P := fun j => ∀ M, CF M f (tellF (kLt (gf h 16)) tvf hm j) → FX (gi h) M f → Wp G (m_X0_tell, d + 7, 0, 0, fun v h1 => v = none ∧ Q h1) (0, 0) 6 [.ref f, .int (nI j)] [] (sm h M)) n (fun j hj ih => ?_) ?_
  · exact key M hM hX
  · intro M hM hX
    have hLm : La (sm h M) := hL
    have g0 : gp (sm h M) f 0 = 3 := hF.2.1
    have g2 : gp (sm h M) 3 2 = 8 := hL.p (by decide +kernel) (by omega)
    have g5 : gp (sm h M) 3 5 = 14 := hL.p (by decide +kernel) (by omega)
    have e8 : gi (sm h M) 8 1 = nI n := (congrFun (hX 8 (fun q _ => by omega) (by decide)) 1).trans hn
    have e15 : M 15 = gi h 15 := hX 15 (fun q _ => by omega) (by decide)
    have r14 : Ro (sm h M) 14 15 20 := hLm.ro (by decide +kernel) (by decide +kernel) (by decide +kernel) (by decide)
    refine x_X0_tell_6 ?_
    rw [g0, g2, g5, e8]
    refine ⟨hF.1, hL.lw.1.1, hL.k (by decide +kernel), ?_⟩
    rw [if_neg (show ¬ nI n ≤ nI j from nI_nlen hj (by omega))]
    refine ⟨r14.1, row_at r14 ?_⟩
    rw [rd_in (by omega) (by decide), show gi (sm h M) 15 = gi h 15 from e15, (hh j hj).2]
    obtain ⟨o1, o2⟩ := tellF_ok (lt := kLt (gf h 16)) (tvf := tvf) (hm := hm) hpos j (by omega) (fun t ht => (hh t (by omega)).1)
    refine ⟨hF.1, s_putIn (h := sm h M) (d := d) (f := f) hF hL.lw (by omega) (hh j hj).1 (by omega) (by omega) hpos (hTV.sm fun b hb => hX.law (by omega) hb) o1 hM (fun c => absurd (o2 j (Nat.le_refl _)) c) (fun _ M2 hM2 hX2 => ?_)⟩
    rw [nI_1]
    exact ih M2 hM2 (hX.trans hX2)
  · intro M hM hX
    have g0 : gp (sm h M) f 0 = 3 := hF.2.1
    have g2 : gp (sm h M) 3 2 = 8 := hL.p (by decide +kernel) (by omega)
    have e8 : gi (sm h M) 8 1 = nI n := (congrFun (hX 8 (fun q _ => by omega) (by decide)) 1).trans hn
    refine x_X0_tell_6 ?_
    rw [g0, g2, e8]
    refine ⟨hF.1, hL.lw.1.1, hL.k (by decide +kernel), ?_⟩
    rw [if_pos (by rw [i_le]; exact Int.le_refl _)]
    exact ⟨rfl, k M hM hX⟩
end TLC
