/-! THE CLASS's constructor -/
theorem plnT_3 : plnT 3 := ⟨by decide +kernel, by decide +kernel, by decide +kernel, by decide +kernel, by decide +kernel, by decide +kernel, by decide +kernel, by decide +kernel, by decide +kernel, by decide +kernel, by decide +kernel, by decide +kernel, by decide +kernel, by decide +kernel, by decide +kernel, by decide +kernel, by decide +kernel, by decide +kernel, by decide +kernel, by decide +kernel, fun z => z.2.1 ⟨Or.inl rfl, rfl⟩⟩
theorem plnT_22 : plnT 22 := ⟨by decide +kernel, by decide +kernel, by decide +kernel, by decide +kernel, by decide +kernel, by decide +kernel, by decide +kernel, by decide +kernel, by decide +kernel, by decide +kernel, by decide +kernel, by decide +kernel, by decide +kernel, by decide +kernel, by decide +kernel, by decide +kernel, by decide +kernel, by decide +kernel, by decide +kernel, by decide +kernel, fun z => z.2.1 ⟨Or.inr rfl, rfl⟩⟩
section CT5
variable {G : pm_G} {d : Nat} {h : pm_H}
theorem cClass {Q : pm_H → Prop} (x : B 1 (opU 0 U0) h) (k : ∀ h', B 446 U0 h' → gi h' 3 8 = 2 → Q h') : ca G (d + 5) m_X11_init 445 8774 [.ref 0] h Q := by
  have t0 : K0[0]? = some (0, 10) := by decide +kernel
  have n01 : (0 : Nat) ≠ 1 := by decide
  refine ca_wp rfl (Nat.le_of_ble_eq_true rfl) rfl (x_X11_init ⟨by rw [x.len]; decide, ?_⟩)
  have b0 := x.begun
  refine ⟨b0.lt, ?_⟩
  rintro _ rfl
  refine ⟨nw_at, ?_⟩
  rw [x.len]
  refine cTape (d := d + 3) (b0.new (kd := (0, 7)) (by decide +kernel) (Or.inl n01)) (fun h1 c1 e1 z1 => ?_)
  rw [opS_mk (by decide)] at c1
  refine ⟨c1.at (by decide) t0, ?_⟩
  rintro _ rfl
  have b1 := c1.st_put (m := 0) (v := 1) (by decide) (by decide +kernel)
  refine ⟨b1.lt, ?_⟩
  rintro _ rfl
  refine ⟨nw_at, ?_⟩
  rw [c1.len]
  refine cPlan (d := d) (b := 3) (b1.new (kd := (0, 4)) (by decide +kernel) (Or.inl n01)) plnT_3 (fun h2 c2 e2 g2 => ?_)
  rw [opS_mk (by decide)] at c2
  refine ⟨c2.at (by decide) t0, ?_⟩
  rintro _ rfl
  have b2 := c2.st_put (m := 1) (v := 3) (by decide) (by decide +kernel)
  refine ⟨b2.lt, ?_⟩
  rintro _ rfl
  refine ⟨nw_at, ?_⟩
  rw [c2.len]
  refine cPlan (d := d) (b := 22) (b2.new (kd := (0, 4)) (by decide +kernel) (Or.inl n01)) plnT_22 (fun h3 c3 e3 z3 => ?_)
  rw [opS_mk (by decide)] at c3
  refine ⟨c3.at (by decide) t0, ?_⟩
  rintro _ rfl
  have b3 := c3.st_put (m := 2) (v := 22) (by decide) (by decide +kernel)
  have g3 : gi h3 3 8 = 2 := (congrFun (e3 3 (by decide)) 8).trans ((congrFun (nw_gi (kd := (0, 4)) b2 (by decide)) 8).trans g2)
  refine ⟨b3.lt, ?_⟩
  rintro _ rfl
  refine ⟨nw_at, ?_⟩
  rw [c3.len]
  refine cWork (d := d + 1) (b := 41) (b3.new (kd := (0, 9)) (by decide +kernel) (Or.inl n01)) (by decide +kernel) (fun h4 c4 e4 => ?_)
  rw [opS_mk (by decide)] at c4
  refine ⟨c4.at (by decide) t0, ?_⟩
  rintro _ rfl
  have b4 := c4.st_put (m := 3) (v := 41) (by decide) (by decide +kernel)
  have g4 : gi h4 3 8 = 2 := (congrFun (e4 3 (by decide)) 8).trans ((congrFun (nw_gi (kd := (0, 9)) b3 (by decide)) 8).trans g3)
  refine ⟨b4.lt, ?_⟩
  rintro _ rfl
  refine ⟨nw_at, ?_⟩
  rw [c4.len]
  refine cWork (d := d + 1) (b := 48) (b4.new (kd := (0, 9)) (by decide +kernel) (Or.inl n01)) (by decide +kernel) (fun h5 c5 e5 => ?_)
  rw [opS_mk (by decide)] at c5
  refine ⟨c5.at (by decide) t0, ?_⟩
  rintro _ rfl
  have b5 := c5.st_put (m := 4) (v := 48) (by decide) (by decide +kernel)
  have g5 : gi h5 3 8 = 2 := (congrFun (e5 3 (by decide)) 8).trans ((congrFun (nw_gi (kd := (0, 9)) b4 (by decide)) 8).trans g4)
  refine ⟨b5.lt, ?_⟩
  rintro _ rfl
  refine ⟨(b5.new (kd := (0, 5)) (by decide +kernel) (Or.inl n01)).at (by decide) t0, nw_at, ?_⟩
  rw [nw_gp b5 (by decide), (B_gp b5 (by decide) rfl).trans (show P0 0 0 = 1 by decide +kernel), c5.len]
  refine cReader (d := d) (b5.new (kd := (0, 5)) (by decide +kernel) (Or.inl n01)) (fun h6 c6 e6 => ?_)
  rw [opS_mk (by decide)] at c6
  refine ⟨c6.at (by decide) t0, ?_⟩
  rintro _ rfl
  have b6 := c6.st_put (m := 5) (v := 55) (by decide) (by decide +kernel)
  have g6 : gi h6 3 8 = 2 := (congrFun (e6 3 (by decide)) 8).trans ((congrFun (nw_gi (kd := (0, 5)) b5 (by decide)) 8).trans g5)
  refine ⟨b6.lt, ?_⟩
  rintro _ rfl
  refine ⟨(b6.new (kd := (0, 0)) (by decide +kernel) (Or.inl n01)).at (by decide) t0, nw_at, ?_⟩
  rw [nw_gp b6 (by decide), (B_gp b6 (by decide) rfl).trans (show P0 0 1 = 3 by decide +kernel), c6.len]
  refine cForest (d := d + 1) (f := 59) (b6.new (kd := (0, 0)) (by decide +kernel) (Or.inl n01)) (by decide) (fun h7 c7 e7 => ?_)
  rw [opS_mk (by decide)] at c7
  refine ⟨c7.at (by decide) t0, ?_⟩
  rintro _ rfl
  have b7 := c7.st_put (m := 6) (v := 59) (by decide) (by decide +kernel)
  have g7 : gi h7 3 8 = 2 := (congrFun (e7 3 (by decide)) 8).trans ((congrFun (nw_gi (kd := (0, 0)) b6 (by decide)) 8).trans g6)
  refine ⟨b7.lt, ?_⟩
  rintro _ rfl
  refine ⟨(b7.new (kd := (0, 8)) (by decide +kernel) (Or.inl n01)).at (by decide) t0, nw_at, ?_⟩
  rw [nw_gp b7 (by decide), (B_gp b7 (by decide) rfl).trans (show P0 0 1 = 3 by decide +kernel), c7.len]
  refine cTrial (d := d) (b7.new (kd := (0, 8)) (by decide +kernel) (Or.inl n01)) (fun h8 c8 e8 => ?_)
  rw [opS_mk (by decide)] at c8
  refine ⟨c8.at (by decide) t0, ?_⟩
  rintro _ rfl
  have b8 := c8.st_put (m := 7) (v := 90) (by decide) (by decide +kernel)
  have g8 : gi h8 3 8 = 2 := (congrFun (e8 3 (by decide)) 8).trans ((congrFun (nw_gi (kd := (0, 8)) b7 (by decide)) 8).trans g7)
  refine st_row (d := d + 2) (N := 8) b8 (by decide) (by decide +kernel) (fun h9 c9 e9 => ⟨c9.at (by decide) t0, ?_⟩)
  rintro _ rfl
  have b9 := c9.st_put (m := 8) (v := h8.1.length) (by decide) (by rw [c8.len]; decide +kernel)
  have g9 : gi h9 3 8 = 2 := (congrFun (e9 3 (by decide)) 8).trans g8
  rintro _ rfl
  have b10 := b9.int (k := 9) (v := 0) t0 (Or.inl rfl)
  rintro _ rfl
  have b11 := b10.int (k := 10) (v := 0) t0 (Or.inl rfl)
  have g11 : gi (si (si (sp h9 0 8 h8.1.length) 0 9 0) 0 10 0) 3 8 = 2 := g9
  refine ⟨c9.lt, ?_⟩
  rintro _ rfl
  have c12 := (b11.new (kd := (6, 8)) (by decide +kernel) (Or.inl (show (6 : Nat) ≠ 1 by decide))).weak (U' := U11 (unS (unS (unS (unS (unS (unS (unS (unS (unS ttS 0) 1) 2) 3) 4) 5) 6) 7) 8) 0 0) (fun a k ha => Or.inl (by
    unfold U11 opU opS
    by_cases q0 : a = 0
    · rw [if_pos q0, if_neg (by omega), if_pos q0]
    · rw [if_neg q0]
      by_cases q1 : a = 130
      · rw [if_pos q1, if_pos q1]; exact decide_eq_true (Nat.zero_le _)
      · rw [if_neg q1, if_neg (by omega), if_neg q1, if_neg q0, if_pos (by omega)]))
  have g12 := (congrFun (nw_gi (kd := (6, 8)) b11 (show 3 < _ by decide)) 8).trans g11
  refine ⟨c12.at (by decide) t0, ?_⟩
  rw [c9.len]
  rintro _ rfl
  have b12 := c12.put (a := 0) (k := 11) (v := 130) (by decide) (by decide +kernel)
  rw [U11_0] at b12
  rintro _ rfl
  have b13 := b12.int (a := 0) (k := 12) (v := 0) t0 (Or.inl rfl)
  rintro _ rfl
  have b14 := b13.int (a := 0) (k := 13) (v := 0) t0 (Or.inl rfl)
  have g14 : gi (si (si (sp (pm_nw (si (si (sp h9 0 8 h8.1.length) 0 9 0) 0 10 0) (6, 8)) 0 11 130) 0 12 0) 0 13 0) 3 8 = 2 := g12
  refine ⟨c12.lt, ?_⟩
  rintro _ rfl
  have c15 := (b14.new (kd := (6, 2)) (by decide +kernel) (Or.inl (show (6 : Nat) ≠ 1 by decide))).weak (U' := U11 (unS (unS (unS (unS (unS (unS (unS (unS (unS (unS ttS 0) 1) 2) 3) 4) 5) 6) 7) 8) 11) 0 0) (fun a k ha => Or.inl (by
    unfold opU
    by_cases q1 : a = 131
    · rw [if_pos q1]
      unfold U11
      rw [if_neg (by omega), if_neg (by omega), if_pos q1]; exact decide_eq_true (Nat.zero_le _)
    · rw [if_neg q1]))
  have g15 := (congrFun (nw_gi (kd := (6, 2)) b14 (show 3 < _ by decide)) 8).trans g14
  refine ⟨c15.at (by decide) t0, ?_⟩
  rw [c12.len]
  rintro _ rfl
  have b15 := c15.put (a := 0) (k := 14) (v := 131) (by decide) (by decide +kernel)
  rw [U11_0] at b15
  refine ⟨c15.lt, ?_⟩
  rintro _ rfl
  refine c_row (d := d + 2) (N := 16) b15 (by decide +kernel) (fun h16 c16 e16 => ?_)
  rw [U11_mk (by decide)] at c16
  have g16 := (congrFun (e16 3 (by decide)) 8).trans g15
  refine ⟨c16.at (by decide) t0, ?_⟩
  rw [c15.len]
  rintro _ rfl
  have b16 := c16.put (a := 0) (k := 15) (v := 132) (by decide) (by decide +kernel)
  rw [U11_0] at b16
  refine ⟨c16.lt, ?_⟩
  rintro _ rfl
  refine c_row (d := d + 2) (N := 2) b16 (by decide +kernel) (fun h17 c17 e17 => ?_)
  rw [U11_mk (by decide)] at c17
  have g17 := (congrFun (e17 3 (by decide)) 8).trans g16
  refine ⟨c17.at (by decide) t0, ?_⟩
  rw [c16.len]
  rintro _ rfl
  have b17 := c17.put (a := 0) (k := 16) (v := 134) (by decide) (by decide +kernel)
  rw [U11_0] at b17
  exact c11_past (d := d + 1) k _ b17 g17
end CT5
