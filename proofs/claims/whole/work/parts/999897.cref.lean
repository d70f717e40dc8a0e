/-! THE REFERENCE's constructor -/
def wvs : List Int64 := [412122, 36021578, 483455, 790116, 347, 36016323, 14052286, 22701, 1014841, 665782, 1332798983, 30596128, 1490319949, 609950, 20687, 19741, 1891, 573, 913652, 1389674843, 36016323, 1825]
theorem wvs_ok : ∀ w ∈ List.range 22, wvs.getD w 0 = lN (e37 (wdl.getD (rwd w) [])) := by decide +kernel
def R0 (h : pm_H) : Prop := WdR h ∧ gi h 446 2 = 0 ∧ PlR h 0 0 0 pl0 ∧ gi h 455 0 = 0 ∧ RA (gi h 460) (gi h 458) 0 A0 ∧ gi h 446 18 = 0 ∧ gi h 458 320 = 0 ∧ gi h 446 19 = 0 ∧ gi h 459 0 = 0 ∧ gi h 459 1 = 0
section CR5
variable {G : pm_G} {d : Nat} {h : pm_H} {n : Nat} {U : Nat → Nat → Bool}
theorem nw_gj {h : pm_H} {kd : Nat × Nat} {a : Nat} (b : B n U h) (ha : a < n) : gj (pm_nw h kd) a = gj h a := by
  funext j
  show pm_zr h.2.2.1 h.1.length 0 a j = _
  unfold pm_zr
  rw [b.len, if_neg (by omega)]
theorem cRef {Q : pm_H → Prop} (x : B 447 (opU 446 U0) h) (k : ∀ h', h'.1 = K0.take 463 → (∀ a k, gp h' a k = if a < 463 then P0 a k else 2000) → (∀ a, a < 446 → gi h' a = gi h a) → R0 h' → Q h') : ca G (d + 5) m_X12_init 16 11273 [.ref 446] h Q := by
  have t0 : K0[446]? = some (0, 11) := by decide +kernel
  refine ca_wp rfl (Nat.le_of_ble_eq_true rfl) rfl (x_X12_init ⟨by rw [x.len]; decide, ?_⟩)
  have b0 := x.begun
  have g0 : ∀ a, a < 447 → gi h a = gi h a := fun _ _ => rfl
  refine ⟨b0.lt, ?_⟩
  rintro n1 f1
  have c1 : B 448 (opS 446 (ttS) U0) n1 := by rw [f1]; exact b0.arr (kd := (1, 1000)) (by decide +kernel) (Or.inr (by decide)) (by decide +kernel) (by decide)
  have g1 : ∀ a, a < 447 → gi n1 a = gi h a := fun a ha => by rw [f1]; exact (nw_gi (kd := (1, 1000)) b0 (by omega)).trans (g0 a ha)
  refine ⟨c1.at (by decide) t0, ?_⟩
  rw [x.len]
  rintro m1 q1
  have b1 : B 448 (opS 446 (unS (ttS) 1) U0) m1 := by rw [q1]; exact c1.st_put (m := 1) (by decide) (by decide +kernel)
  have g1 : ∀ a, a < 447 → gi m1 a = gi h a := fun a ha => by rw [q1]; exact g1 a ha
  refine ⟨c1.lt, ?_⟩
  rintro n2 f2
  have c2 : B 449 (opS 446 (unS (ttS) 1) U0) n2 := by rw [f2]; exact b1.arr (kd := (1, 1002)) (by decide +kernel) (Or.inr (by decide)) (by decide +kernel) (by decide)
  have g2 : ∀ a, a < 447 → gi n2 a = gi h a := fun a ha => by rw [f2]; exact (nw_gi (kd := (1, 1002)) b1 (by omega)).trans (g1 a ha)
  refine ⟨c2.at (by decide) t0, ?_⟩
  rw [c1.len]
  rintro m2 q2
  have b2 : B 449 (opS 446 (unS (unS (ttS) 1) 4) U0) m2 := by rw [q2]; exact c2.st_put (m := 4) (by decide) (by decide +kernel)
  have g2 : ∀ a, a < 447 → gi m2 a = gi h a := fun a ha => by rw [q2]; exact g2 a ha
  refine ⟨c2.lt, ?_⟩
  rintro n3 f3
  have c3 : B 450 (opS 446 (unS (unS (ttS) 1) 4) U0) n3 := by rw [f3]; exact b2.arr (kd := (1, 1002)) (by decide +kernel) (Or.inr (by decide)) (by decide +kernel) (by decide)
  have g3 : ∀ a, a < 447 → gi n3 a = gi h a := fun a ha => by rw [f3]; exact (nw_gi (kd := (1, 1002)) b2 (by omega)).trans (g2 a ha)
  refine ⟨c3.at (by decide) t0, ?_⟩
  rw [c2.len]
  rintro m3 q3
  have b3 : B 450 (opS 446 (unS (unS (unS (ttS) 1) 4) 5) U0) m3 := by rw [q3]; exact c3.st_put (m := 5) (by decide) (by decide +kernel)
  have g3 : ∀ a, a < 447 → gi m3 a = gi h a := fun a ha => by rw [q3]; exact g3 a ha
  refine ⟨c3.lt, ?_⟩
  rintro n4 f4
  have c4 : B 451 (opS 446 (unS (unS (unS (ttS) 1) 4) 5) U0) n4 := by rw [f4]; exact b3.arr (kd := (2, 1002)) (by decide +kernel) (Or.inr (by decide)) (by decide +kernel) (by decide)
  have g4 : ∀ a, a < 447 → gi n4 a = gi h a := fun a ha => by rw [f4]; exact (nw_gi (kd := (2, 1002)) b3 (by omega)).trans (g3 a ha)
  refine ⟨c4.at (by decide) t0, ?_⟩
  rw [c3.len]
  rintro m4 q4
  have b4 : B 451 (opS 446 (unS (unS (unS (unS (ttS) 1) 4) 5) 6) U0) m4 := by rw [q4]; exact c4.st_put (m := 6) (by decide) (by decide +kernel)
  have g4 : ∀ a, a < 447 → gi m4 a = gi h a := fun a ha => by rw [q4]; exact g4 a ha
  refine ⟨c4.lt, ?_⟩
  rintro n5 f5
  have c5 : B 452 (opS 446 (unS (unS (unS (unS (ttS) 1) 4) 5) 6) U0) n5 := by rw [f5]; exact b4.arr (kd := (2, 22)) (by decide +kernel) (Or.inr (by decide)) (by decide +kernel) (by decide)
  have g5 : ∀ a, a < 447 → gi n5 a = gi h a := fun a ha => by rw [f5]; exact (nw_gi (kd := (2, 22)) b4 (by omega)).trans (g4 a ha)
  rw [c4.len]
  refine ⟨22, c5.at (by decide) (by decide +kernel), ?_⟩
  refine ⟨vp_nI (k := 0) (by decide) (by decide), ?_⟩
  rintro _ rfl
  refine ⟨vp_nI (k := 1) (by decide) (by decide), ?_⟩
  rintro _ rfl
  refine ⟨vp_nI (k := 2) (by decide) (by decide), ?_⟩
  rintro _ rfl
  refine ⟨vp_nI (k := 3) (by decide) (by decide), ?_⟩
  rintro _ rfl
  refine ⟨vp_nI (k := 4) (by decide) (by decide), ?_⟩
  rintro _ rfl
  refine ⟨vp_nI (k := 5) (by decide) (by decide), ?_⟩
  rintro _ rfl
  refine ⟨vp_nI (k := 6) (by decide) (by decide), ?_⟩
  rintro _ rfl
  refine ⟨vp_nI (k := 7) (by decide) (by decide), ?_⟩
  rintro _ rfl
  refine ⟨vp_nI (k := 8) (by decide) (by decide), ?_⟩
  rintro _ rfl
  refine ⟨vp_nI (k := 9) (by decide) (by decide), ?_⟩
  rintro _ rfl
  refine ⟨vp_nI (k := 10) (by decide) (by decide), ?_⟩
  rintro _ rfl
  refine ⟨vp_nI (k := 11) (by decide) (by decide), ?_⟩
  rintro _ rfl
  refine ⟨vp_nI (k := 12) (by decide) (by decide), ?_⟩
  rintro _ rfl
  refine ⟨vp_nI (k := 13) (by decide) (by decide), ?_⟩
  rintro _ rfl
  refine ⟨vp_nI (k := 14) (by decide) (by decide), ?_⟩
  rintro _ rfl
  refine ⟨vp_nI (k := 15) (by decide) (by decide), ?_⟩
  rintro _ rfl
  refine ⟨vp_nI (k := 16) (by decide) (by decide), ?_⟩
  rintro _ rfl
  refine ⟨vp_nI (k := 17) (by decide) (by decide), ?_⟩
  rintro _ rfl
  refine ⟨vp_nI (k := 18) (by decide) (by decide), ?_⟩
  rintro _ rfl
  refine ⟨vp_nI (k := 19) (by decide) (by decide), ?_⟩
  rintro _ rfl
  refine ⟨vp_nI (k := 20) (by decide) (by decide), ?_⟩
  rintro _ rfl
  refine ⟨vp_nI (k := 21) (by decide) (by decide), ?_⟩
  rintro _ rfl
  have wd : ∀ w, w < 22 → gj (sl (sl (sl (sl (sl (sl (sl (sl (sl (sl (sl (sl (sl (sl (sl (sl (sl (sl (sl (sl (sl (sl n5 451 (0 : Int32).toNatClampNeg (412122 : Int64)) 451 (1 : Int32).toNatClampNeg (36021578 : Int64)) 451 (2 : Int32).toNatClampNeg (483455 : Int64)) 451 (3 : Int32).toNatClampNeg (790116 : Int64)) 451 (4 : Int32).toNatClampNeg (347 : Int64)) 451 (5 : Int32).toNatClampNeg (36016323 : Int64)) 451 (6 : Int32).toNatClampNeg (14052286 : Int64)) 451 (7 : Int32).toNatClampNeg (22701 : Int64)) 451 (8 : Int32).toNatClampNeg (1014841 : Int64)) 451 (9 : Int32).toNatClampNeg (665782 : Int64)) 451 (10 : Int32).toNatClampNeg (1332798983 : Int64)) 451 (11 : Int32).toNatClampNeg (30596128 : Int64)) 451 (12 : Int32).toNatClampNeg (1490319949 : Int64)) 451 (13 : Int32).toNatClampNeg (609950 : Int64)) 451 (14 : Int32).toNatClampNeg (20687 : Int64)) 451 (15 : Int32).toNatClampNeg (19741 : Int64)) 451 (16 : Int32).toNatClampNeg (1891 : Int64)) 451 (17 : Int32).toNatClampNeg (573 : Int64)) 451 (18 : Int32).toNatClampNeg (913652 : Int64)) 451 (19 : Int32).toNatClampNeg (1389674843 : Int64)) 451 (20 : Int32).toNatClampNeg (36016323 : Int64)) 451 (21 : Int32).toNatClampNeg (1825 : Int64)) 451 w = wvs.getD w 0 := by
    intro w hw
    rcases (by omega : w = 0 ∨ w = 1 ∨ w = 2 ∨ w = 3 ∨ w = 4 ∨ w = 5 ∨ w = 6 ∨ w = 7 ∨ w = 8 ∨ w = 9 ∨ w = 10 ∨ w = 11 ∨ w = 12 ∨ w = 13 ∨ w = 14 ∨ w = 15 ∨ w = 16 ∨ w = 17 ∨ w = 18 ∨ w = 19 ∨ w = 20 ∨ w = 21) with q | q | q | q | q | q | q | q | q | q | q | q | q | q | q | q | q | q | q | q | q | q <;> subst q <;> rfl
  obtain ⟨W, eW⟩ : ∃ y : pm_H, y = (sl (sl (sl (sl (sl (sl (sl (sl (sl (sl (sl (sl (sl (sl (sl (sl (sl (sl (sl (sl (sl (sl n5 451 (0 : Int32).toNatClampNeg (412122 : Int64)) 451 (1 : Int32).toNatClampNeg (36021578 : Int64)) 451 (2 : Int32).toNatClampNeg (483455 : Int64)) 451 (3 : Int32).toNatClampNeg (790116 : Int64)) 451 (4 : Int32).toNatClampNeg (347 : Int64)) 451 (5 : Int32).toNatClampNeg (36016323 : Int64)) 451 (6 : Int32).toNatClampNeg (14052286 : Int64)) 451 (7 : Int32).toNatClampNeg (22701 : Int64)) 451 (8 : Int32).toNatClampNeg (1014841 : Int64)) 451 (9 : Int32).toNatClampNeg (665782 : Int64)) 451 (10 : Int32).toNatClampNeg (1332798983 : Int64)) 451 (11 : Int32).toNatClampNeg (30596128 : Int64)) 451 (12 : Int32).toNatClampNeg (1490319949 : Int64)) 451 (13 : Int32).toNatClampNeg (609950 : Int64)) 451 (14 : Int32).toNatClampNeg (20687 : Int64)) 451 (15 : Int32).toNatClampNeg (19741 : Int64)) 451 (16 : Int32).toNatClampNeg (1891 : Int64)) 451 (17 : Int32).toNatClampNeg (573 : Int64)) 451 (18 : Int32).toNatClampNeg (913652 : Int64)) 451 (19 : Int32).toNatClampNeg (1389674843 : Int64)) 451 (20 : Int32).toNatClampNeg (36016323 : Int64)) 451 (21 : Int32).toNatClampNeg (1825 : Int64)) := ⟨_, rfl⟩
  rw [← eW] at wd ⊢
  have cW : B 452 (opS 446 (unS (unS (unS (unS (ttS) 1) 4) 5) 6) U0) W := by rw [eW]; exact c5
  have gW : ∀ a, a < 447 → gi W a = gi h a := fun a ha => by rw [eW]; exact g5 a ha
  refine ⟨c5.at (by decide) t0, ?_⟩
  rintro m5 q5
  have b5 : B 452 (opS 446 (unS (unS (unS (unS (unS (ttS) 1) 4) 5) 6) 9) U0) m5 := by rw [q5]; exact cW.st_put (m := 9) (by decide) (by decide +kernel)
  have j5 : gj m5 451 = gj W 451 := by rw [q5]
  have g5 : ∀ a, a < 447 → gi m5 a = gi h a := fun a ha => by rw [q5]; exact gW a ha
  refine ⟨c5.lt, ?_⟩
  rintro n6 f6
  have c6 : B 453 (opS 446 (unS (unS (unS (unS (unS (ttS) 1) 4) 5) 6) 9) U0) n6 := by rw [f6]; exact b5.arr (kd := (1, 180)) (by decide +kernel) (Or.inr (by decide)) (by decide +kernel) (by decide)
  have g6 : ∀ a, a < 447 → gi n6 a = gi h a := fun a ha => by rw [f6]; exact (nw_gi (kd := (1, 180)) b5 (by omega)).trans (g5 a ha)
  have j6 : gj n6 451 = gj m5 451 := by rw [f6]; exact nw_gj (kd := (1, 180)) b5 (by decide)
  refine ⟨c6.at (by decide) t0, ?_⟩
  rw [c5.len]
  rintro m6 q6
  have b6 : B 453 (opS 446 (unS (unS (unS (unS (unS (unS (ttS) 1) 4) 5) 6) 9) 10) U0) m6 := by rw [q6]; exact c6.st_put (m := 10) (by decide) (by decide +kernel)
  have g6 : ∀ a, a < 447 → gi m6 a = gi h a := fun a ha => by rw [q6]; exact g6 a ha
  have j6 : gj m6 451 = gj m5 451 := by rw [q6]; exact j6
  refine ⟨c6.lt, ?_⟩
  rintro n7 f7
  have c7 : B 454 (opS 446 (unS (unS (unS (unS (unS (unS (ttS) 1) 4) 5) 6) 9) 10) U0) n7 := by rw [f7]; exact b6.arr (kd := (1, 2200)) (by decide +kernel) (Or.inr (by decide)) (by decide +kernel) (by decide)
  have g7 : ∀ a, a < 447 → gi n7 a = gi h a := fun a ha => by rw [f7]; exact (nw_gi (kd := (1, 2200)) b6 (by omega)).trans (g6 a ha)
  have j7 : gj n7 451 = gj m6 451 := by rw [f7]; exact nw_gj (kd := (1, 2200)) b6 (by decide)
  refine ⟨c7.at (by decide) t0, ?_⟩
  rw [c6.len]
  rintro m7 q7
  have b7 : B 454 (opS 446 (unS (unS (unS (unS (unS (unS (unS (ttS) 1) 4) 5) 6) 9) 10) 11) U0) m7 := by rw [q7]; exact c7.st_put (m := 11) (by decide) (by decide +kernel)
  have g7 : ∀ a, a < 447 → gi m7 a = gi h a := fun a ha => by rw [q7]; exact g7 a ha
  have j7 : gj m7 451 = gj m6 451 := by rw [q7]; exact j7
  refine ⟨c7.lt, ?_⟩
  rintro n8 f8
  have c8 : B 455 (opS 446 (unS (unS (unS (unS (unS (unS (unS (ttS) 1) 4) 5) 6) 9) 10) 11) U0) n8 := by rw [f8]; exact b7.arr (kd := (2, 50)) (by decide +kernel) (Or.inr (by decide)) (by decide +kernel) (by decide)
  have g8 : ∀ a, a < 447 → gi n8 a = gi h a := fun a ha => by rw [f8]; exact (nw_gi (kd := (2, 50)) b7 (by omega)).trans (g7 a ha)
  have j8 : gj n8 451 = gj m7 451 := by rw [f8]; exact nw_gj (kd := (2, 50)) b7 (by decide)
  refine ⟨c8.at (by decide) t0, ?_⟩
  rw [c7.len]
  rintro m8 q8
  have b8 : B 455 (opS 446 (unS (unS (unS (unS (unS (unS (unS (unS (ttS) 1) 4) 5) 6) 9) 10) 11) 13) U0) m8 := by rw [q8]; exact c8.st_put (m := 13) (by decide) (by decide +kernel)
  have g8 : ∀ a, a < 447 → gi m8 a = gi h a := fun a ha => by rw [q8]; exact g8 a ha
  have j8 : gj m8 451 = gj m7 451 := by rw [q8]; exact j8
  refine ⟨c8.lt, ?_⟩
  rintro n9 f9
  have c9 : B 456 (opS 446 (unS (unS (unS (unS (unS (unS (unS (unS (ttS) 1) 4) 5) 6) 9) 10) 11) 13) U0) n9 := by rw [f9]; exact b8.arr (kd := (1, 190)) (by decide +kernel) (Or.inr (by decide)) (by decide +kernel) (by decide)
  have g9 : ∀ a, a < 447 → gi n9 a = gi h a := fun a ha => by rw [f9]; exact (nw_gi (kd := (1, 190)) b8 (by omega)).trans (g8 a ha)
  have j9 : gj n9 451 = gj m8 451 := by rw [f9]; exact nw_gj (kd := (1, 190)) b8 (by decide)
  refine ⟨c9.at (by decide) t0, ?_⟩
  rw [c8.len]
  rintro m9 q9
  have b9 : B 456 (opS 446 (unS (unS (unS (unS (unS (unS (unS (unS (unS (ttS) 1) 4) 5) 6) 9) 10) 11) 13) 14) U0) m9 := by rw [q9]; exact c9.st_put (m := 14) (by decide) (by decide +kernel)
  have g9 : ∀ a, a < 447 → gi m9 a = gi h a := fun a ha => by rw [q9]; exact g9 a ha
  have j9 : gj m9 451 = gj m8 451 := by rw [q9]; exact j9
  refine ⟨c9.lt, ?_⟩
  rintro n10 f10
  have c10 : B 457 (opS 446 (unS (unS (unS (unS (unS (unS (unS (unS (unS (ttS) 1) 4) 5) 6) 9) 10) 11) 13) 14) U0) n10 := by rw [f10]; exact b9.arr (kd := (1, 4)) (by decide +kernel) (Or.inr (by decide)) (by decide +kernel) (by decide)
  have g10 : ∀ a, a < 447 → gi n10 a = gi h a := fun a ha => by rw [f10]; exact (nw_gi (kd := (1, 4)) b9 (by omega)).trans (g9 a ha)
  have j10 : gj n10 451 = gj m9 451 := by rw [f10]; exact nw_gj (kd := (1, 4)) b9 (by decide)
  refine ⟨c10.at (by decide) t0, ?_⟩
  rw [c9.len]
  rintro m10 q10
  have b10 : B 457 (opS 446 (unS (unS (unS (unS (unS (unS (unS (unS (unS (unS (ttS) 1) 4) 5) 6) 9) 10) 11) 13) 14) 15) U0) m10 := by rw [q10]; exact c10.st_put (m := 15) (by decide) (by decide +kernel)
  have g10 : ∀ a, a < 447 → gi m10 a = gi h a := fun a ha => by rw [q10]; exact g10 a ha
  have j10 : gj m10 451 = gj m9 451 := by rw [q10]; exact j10
  refine ⟨c10.lt, ?_⟩
  rintro n11 f11
  have c11 : B 458 (opS 446 (unS (unS (unS (unS (unS (unS (unS (unS (unS (unS (ttS) 1) 4) 5) 6) 9) 10) 11) 13) 14) 15) U0) n11 := by rw [f11]; exact b10.arr (kd := (1, 64)) (by decide +kernel) (Or.inr (by decide)) (by decide +kernel) (by decide)
  have g11 : ∀ a, a < 447 → gi n11 a = gi h a := fun a ha => by rw [f11]; exact (nw_gi (kd := (1, 64)) b10 (by omega)).trans (g10 a ha)
  have j11 : gj n11 451 = gj m10 451 := by rw [f11]; exact nw_gj (kd := (1, 64)) b10 (by decide)
  refine ⟨c11.at (by decide) t0, ?_⟩
  rw [c10.len]
  rintro m11 q11
  have b11 : B 458 (opS 446 (unS (unS (unS (unS (unS (unS (unS (unS (unS (unS (unS (ttS) 1) 4) 5) 6) 9) 10) 11) 13) 14) 15) 16) U0) m11 := by rw [q11]; exact c11.st_put (m := 16) (by decide) (by decide +kernel)
  have g11 : ∀ a, a < 447 → gi m11 a = gi h a := fun a ha => by rw [q11]; exact g11 a ha
  have j11 : gj m11 451 = gj m10 451 := by rw [q11]; exact j11
  refine ⟨c11.lt, ?_⟩
  rintro n12 f12
  have c12 : B 459 (opS 446 (unS (unS (unS (unS (unS (unS (unS (unS (unS (unS (unS (ttS) 1) 4) 5) 6) 9) 10) 11) 13) 14) 15) 16) U0) n12 := by rw [f12]; exact b11.arr (kd := (1, 4485)) (by decide +kernel) (Or.inr (by decide)) (by decide +kernel) (by decide)
  have g12 : ∀ a, a < 447 → gi n12 a = gi h a := fun a ha => by rw [f12]; exact (nw_gi (kd := (1, 4485)) b11 (by omega)).trans (g11 a ha)
  have j12 : gj n12 451 = gj m11 451 := by rw [f12]; exact nw_gj (kd := (1, 4485)) b11 (by decide)
  refine ⟨c12.at (by decide) t0, ?_⟩
  rw [c11.len]
  rintro m12 q12
  have b12 : B 459 (opS 446 (unS (unS (unS (unS (unS (unS (unS (unS (unS (unS (unS (unS (ttS) 1) 4) 5) 6) 9) 10) 11) 13) 14) 15) 16) 17) U0) m12 := by rw [q12]; exact c12.st_put (m := 17) (by decide) (by decide +kernel)
  have g12 : ∀ a, a < 447 → gi m12 a = gi h a := fun a ha => by rw [q12]; exact g12 a ha
  have j12 : gj m12 451 = gj m11 451 := by rw [q12]; exact j12
  refine ⟨c12.lt, ?_⟩
  rintro n13 f13
  have c13 : B 460 (opS 446 (unS (unS (unS (unS (unS (unS (unS (unS (unS (unS (unS (unS (ttS) 1) 4) 5) 6) 9) 10) 11) 13) 14) 15) 16) 17) U0) n13 := by rw [f13]; exact b12.arr (kd := (5, 2)) (by decide +kernel) (Or.inr (by decide)) (by decide +kernel) (by decide)
  have g13 : ∀ a, a < 447 → gi n13 a = gi h a := fun a ha => by rw [f13]; exact (nw_gi (kd := (5, 2)) b12 (by omega)).trans (g12 a ha)
  have j13 : gj n13 451 = gj m12 451 := by rw [f13]; exact nw_gj (kd := (5, 2)) b12 (by decide)
  refine ⟨c13.at (by decide) t0, ?_⟩
  rw [c12.len]
  rintro m13 q13
  have b13 : B 460 (opS 446 (unS (unS (unS (unS (unS (unS (unS (unS (unS (unS (unS (unS (unS (ttS) 1) 4) 5) 6) 9) 10) 11) 13) 14) 15) 16) 17) 20) U0) m13 := by rw [q13]; exact c13.st_put (m := 20) (by decide) (by decide +kernel)
  have g13 : ∀ a, a < 447 → gi m13 a = gi h a := fun a ha => by rw [q13]; exact g13 a ha
  have j13 : gj m13 451 = gj m12 451 := by rw [q13]; exact j13
  refine ⟨c13.lt, ?_⟩
  rintro n14 f14
  have c14 : B 461 (opS 446 (unS (unS (unS (unS (unS (unS (unS (unS (unS (unS (unS (unS (unS (ttS) 1) 4) 5) 6) 9) 10) 11) 13) 14) 15) 16) 17) 20) U0) n14 := by rw [f14]; exact b13.arr (kd := (1, 20)) (by decide +kernel) (Or.inr (by decide)) (by decide +kernel) (by decide)
  have g14 : ∀ a, a < 447 → gi n14 a = gi h a := fun a ha => by rw [f14]; exact (nw_gi (kd := (1, 20)) b13 (by omega)).trans (g13 a ha)
  have j14 : gj n14 451 = gj m13 451 := by rw [f14]; exact nw_gj (kd := (1, 20)) b13 (by decide)
  refine ⟨c14.at (by decide) t0, ?_⟩
  rw [c13.len]
  rintro m14 q14
  have b14 : B 461 (opS 446 (unS (unS (unS (unS (unS (unS (unS (unS (unS (unS (unS (unS (unS (unS (ttS) 1) 4) 5) 6) 9) 10) 11) 13) 14) 15) 16) 17) 20) 21) U0) m14 := by rw [q14]; exact c14.st_put (m := 21) (by decide) (by decide +kernel)
  have g14 : ∀ a, a < 447 → gi m14 a = gi h a := fun a ha => by rw [q14]; exact g14 a ha
  have j14 : gj m14 451 = gj m13 451 := by rw [q14]; exact j14
  refine ⟨c14.lt, ?_⟩
  rintro n15 f15
  have c15 : B 462 (opS 446 (unS (unS (unS (unS (unS (unS (unS (unS (unS (unS (unS (unS (unS (unS (ttS) 1) 4) 5) 6) 9) 10) 11) 13) 14) 15) 16) 17) 20) 21) U0) n15 := by rw [f15]; exact b14.arr (kd := (1, 20)) (by decide +kernel) (Or.inr (by decide)) (by decide +kernel) (by decide)
  have g15 : ∀ a, a < 447 → gi n15 a = gi h a := fun a ha => by rw [f15]; exact (nw_gi (kd := (1, 20)) b14 (by omega)).trans (g14 a ha)
  have j15 : gj n15 451 = gj m14 451 := by rw [f15]; exact nw_gj (kd := (1, 20)) b14 (by decide)
  refine ⟨c15.at (by decide) t0, ?_⟩
  rw [c14.len]
  rintro m15 q15
  have b15 : B 462 (opS 446 (unS (unS (unS (unS (unS (unS (unS (unS (unS (unS (unS (unS (unS (unS (unS (ttS) 1) 4) 5) 6) 9) 10) 11) 13) 14) 15) 16) 17) 20) 21) 22) U0) m15 := by rw [q15]; exact c15.st_put (m := 22) (by decide) (by decide +kernel)
  have g15 : ∀ a, a < 447 → gi m15 a = gi h a := fun a ha => by rw [q15]; exact g15 a ha
  have j15 : gj m15 451 = gj m14 451 := by rw [q15]; exact j15
  refine ⟨c15.lt, ?_⟩
  rintro n16 f16
  have c16 : B 463 (opS 446 (unS (unS (unS (unS (unS (unS (unS (unS (unS (unS (unS (unS (unS (unS (unS (ttS) 1) 4) 5) 6) 9) 10) 11) 13) 14) 15) 16) 17) 20) 21) 22) U0) n16 := by rw [f16]; exact b15.arr (kd := (1, 30)) (by decide +kernel) (Or.inr (by decide)) (by decide +kernel) (by decide)
  have g16 : ∀ a, a < 447 → gi n16 a = gi h a := fun a ha => by rw [f16]; exact (nw_gi (kd := (1, 30)) b15 (by omega)).trans (g15 a ha)
  have j16 : gj n16 451 = gj m15 451 := by rw [f16]; exact nw_gj (kd := (1, 30)) b15 (by decide)
  refine ⟨c16.at (by decide) t0, ?_⟩
  rw [c15.len]
  rintro m16 q16
  have b16 : B 463 (opS 446 (unS (unS (unS (unS (unS (unS (unS (unS (unS (unS (unS (unS (unS (unS (unS (unS (ttS) 1) 4) 5) 6) 9) 10) 11) 13) 14) 15) 16) 17) 20) 21) 22) 23) U0) m16 := by rw [q16]; exact c16.st_put (m := 23) (by decide) (by decide +kernel)
  have g16 : ∀ a, a < 447 → gi m16 a = gi h a := fun a ha => by rw [q16]; exact g16 a ha
  have j16 : gj m16 451 = gj m15 451 := by rw [q16]; exact j16
  have bE := b16.close (m := 25) (by decide +kernel) (by decide +kernel)
  have jE : gj m16 451 = gj W 451 := j16.trans (j15.trans (j14.trans (j13.trans (j12.trans (j11.trans (j10.trans (j9.trans (j8.trans (j7.trans (j6.trans j5))))))))))
  clear b1 c1 b2 c2 b3 c3 b4 c4 b5 c5 b6 c6 b7 c7 b8 c8 b9 c9 b10 c10 b11 c11 b12 c12 b13 c13 b14 c14 b15 c15
  have gpE : ∀ a k, gp m16 a k = if a < 463 then P0 a k else 2000 := fun a k => by
    rw [bE.2.2.1]
    by_cases q : a < 463
    · rw [if_pos q, if_pos ⟨q, by unfold mkU U0; split <;> rfl⟩]
    · rw [if_neg q, if_neg (fun z => q z.1)]
  have P : ∀ a k v, P0 a k = v → a < 463 → gp m16 a k = v := fun a k v e ha => by rw [gpE, if_pos ha, e]
  have mk : Mk m16 := ⟨⟨bE.at (by decide) (by decide +kernel), P _ _ _ (by decide +kernel) (by decide), bE.at (by decide) (by decide +kernel)⟩, P _ _ _ (by decide +kernel) (by decide), bE.at (by decide) (by decide +kernel), P _ _ _ (by decide +kernel) (by decide), bE.at (by decide) (by decide +kernel)⟩
  have i446 : ∀ j, gi m16 446 j = 0 := fun j => bE.2.2.2.2 446 11 j (by decide) t0 ⟨fun z => absurd z.1 (by decide), fun z => absurd z.1 (by decide), fun z => absurd z.1 (by decide)⟩
  refine r_stands0 (d := d + 3) (b := 0) mk (by decide) (fun h6 a1 a2 a3 a4 => ?_)
  have gp6 : gp h6 = gp m16 := by show h6.2.2.2.2 = _; rw [a2]
  have gj6 : gj h6 = gj m16 := by show h6.2.2.1 = _; rw [a2]
  have at6 : ∀ {a : Nat} {q : Nat × Nat}, a < 463 → K0[a]? = some q → h6.1[a]? = some q := fun ha e => by rw [a1]; exact bE.at ha e
  have P6 : ∀ a k v, P0 a k = v → a < 463 → gp h6 a k = v := fun a k v e ha => by rw [gp6]; exact P a k v e ha
  have mk6 : Mk h6 := ⟨⟨at6 (by decide) (by decide +kernel), P6 _ _ _ (by decide +kernel) (by decide), at6 (by decide) (by decide +kernel)⟩, P6 _ _ _ (by decide +kernel) (by decide), at6 (by decide) (by decide +kernel), P6 _ _ _ (by decide +kernel) (by decide), at6 (by decide) (by decide +kernel)⟩
  have v52 : ∀ j, j < 90 → gi h6 452 j = stV j 0 := fun j hj => by rw [a4, if_pos ⟨Nat.zero_le _, by omega⟩]
  refine ⟨at6 (by decide) t0, ?_⟩
  refine r_begins0 (d := d) mk6 ⟨P6 _ _ _ (by decide +kernel) (by decide), at6 (by decide) (by decide +kernel)⟩ ⟨P6 _ _ _ (by decide +kernel) (by decide), at6 (by decide) (by decide +kernel)⟩ ((v52 2 (by decide)).trans (by decide)) (fun S' hA s320 => ⟨rfl, ?_⟩)
  have gne : ∀ a, a ≠ 446 → a ≠ 455 → a ≠ 458 → a ≠ 459 → gi (si (si (si (si (si (s8 h6 S') 455 0 0) 446 18 0) 446 19 0) 459 0 0) 459 1 0) a = gi h6 a := fun a x1 x2 x3 x4 => by
    rw [si_ne x4, si_ne x4, si_ne x1, si_ne x1, si_ne x2, s8_ne _ _ x3]
  have g8 : gi (si (si (si (si (si (s8 h6 S') 455 0 0) 446 18 0) 446 19 0) 459 0 0) 459 1 0) 458 = S' := by
    rw [si_ne (by decide), si_ne (by decide), si_ne (by decide), si_ne (by decide), si_ne (by decide), s8_gi]
  have z446 : ∀ j, gi (si (si (si (si (si (s8 h6 S') 455 0 0) 446 18 0) 446 19 0) 459 0 0) 459 1 0) 446 j = 0 := fun j => by
    rw [si_to (by decide), si_to (by decide), si_on, si_on, si_to (by decide), s8_ne _ _ (by decide), a3 446 (by decide), i446]
    split
    · rfl
    · split <;> rfl
  have z455 : gi (si (si (si (si (si (s8 h6 S') 455 0 0) 446 18 0) 446 19 0) 459 0 0) 459 1 0) 455 0 = 0 := by
    rw [si_to (by decide), si_to (by decide), si_to (by decide), si_to (by decide), si_on]; exact if_pos rfl
  have z459 : ∀ j, j < 2 → gi (si (si (si (si (si (s8 h6 S') 455 0 0) 446 18 0) 446 19 0) 459 0 0) 459 1 0) 459 j = 0 := fun j hj => by
    rw [si_on, si_on]
    rcases (by omega : j = 0 ∨ j = 1) with q | q
    · rw [q]; rfl
    · rw [q]; rfl
  refine k _ (a1.trans bE.1) (fun a k => ?_) (fun a ha => ?_) ⟨fun w hw => ?_, z446 2, ?_, z455, ?_, z446 18, ?_, z446 19, z459 0 (by decide), z459 1 (by decide)⟩
  · show gp h6 a k = _
    rw [gp6]; exact gpE a k
  · rw [gne a (by omega) (by omega) (by omega) (by omega), a3 a (by omega)]
    exact g16 a (by omega)
  · show gj h6 451 w = _
    rw [gj6, jE, wd w hw]
    exact wvs_ok w (List.mem_range.mpr hw)
  · have e52 := gne 452 (by decide) (by decide) (by decide) (by decide)
    refine ⟨?_, ?_, ?_, ?_, fun j hj => absurd hj (Nat.not_lt_zero j), fun j hj => absurd hj (Nat.not_lt_zero j), fun j hj => absurd hj (Nat.not_lt_zero j), fun j hj => absurd hj (Nat.not_lt_zero j), fun j hj => absurd hj (Nat.not_lt_zero j), ?_⟩
    · rw [e52, v52 0 (by decide)]; rfl
    · rw [e52, v52 1 (by decide)]; rfl
    · rw [e52, v52 2 (by decide)]; rfl
    · rw [e52, v52 3 (by decide)]; rfl
    · unfold LwR
      rw [if_pos (show pLw pl0 = [] from rfl), e52, v52 4 (by decide)]; rfl
  · rw [g8, gne 460 (by decide) (by decide) (by decide) (by decide)]
    exact hA
  · rw [g8]; exact s320
end CR5
