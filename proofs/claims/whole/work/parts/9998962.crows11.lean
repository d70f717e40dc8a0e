set_option linter.all false
set_option maxRecDepth 20000 in
set_option maxHeartbeats 4000000 in
theorem x_X11_init {G : pm_G} {d : Nat} {post : pm_PT} {h : pm_H} {l0 : Nat} (w :
    (l0 < h.1.length) ∧
    (h.1.length < 1000) ∧
    ∀ h1 : pm_H, h1 = pm_nw h (0, 7) →
    (h1.1[h.1.length]? = some (0, 7)) ∧
    ca G d m_X7_init 1 1000 [.ref h.1.length] h1 fun h3 =>
    (h3.1[l0]? = some (0, 10)) ∧
    ∀ h4 : pm_H, h4 = sp h3 l0 0 h.1.length →
    (h3.1.length < 1000) ∧
    ∀ h5 : pm_H, h5 = pm_nw h4 (0, 4) →
    (h5.1[h3.1.length]? = some (0, 4)) ∧
    ca G d m_X4_init 18 1165 [.ref h3.1.length] h5 fun h7 =>
    (h7.1[l0]? = some (0, 10)) ∧
    ∀ h8 : pm_H, h8 = sp h7 l0 1 h3.1.length →
    (h7.1.length < 1000) ∧
    ∀ h9 : pm_H, h9 = pm_nw h8 (0, 4) →
    (h9.1[h7.1.length]? = some (0, 4)) ∧
    ca G d m_X4_init 18 1165 [.ref h7.1.length] h9 fun h11 =>
    (h11.1[l0]? = some (0, 10)) ∧
    ∀ h12 : pm_H, h12 = sp h11 l0 2 h7.1.length →
    (h11.1.length < 1000) ∧
    ∀ h13 : pm_H, h13 = pm_nw h12 (0, 9) →
    (h13.1[h11.1.length]? = some (0, 9)) ∧
    ca G d m_X10_init 6 93 [.ref h11.1.length] h13 fun h15 =>
    (h15.1[l0]? = some (0, 10)) ∧
    ∀ h16 : pm_H, h16 = sp h15 l0 3 h11.1.length →
    (h15.1.length < 1000) ∧
    ∀ h17 : pm_H, h17 = pm_nw h16 (0, 9) →
    (h17.1[h15.1.length]? = some (0, 9)) ∧
    ca G d m_X10_init 6 93 [.ref h15.1.length] h17 fun h19 =>
    (h19.1[l0]? = some (0, 10)) ∧
    ∀ h20 : pm_H, h20 = sp h19 l0 4 h15.1.length →
    (h19.1.length < 1000) ∧
    ∀ h21 : pm_H, h21 = pm_nw h20 (0, 5) →
    (h21.1[l0]? = some (0, 10)) ∧
    (h21.1[h19.1.length]? = some (0, 5)) ∧
    ca G d m_X5_init 3 71 [.ref h19.1.length, .ref (gp h21 l0 0)] h21 fun h23 =>
    (h23.1[l0]? = some (0, 10)) ∧
    ∀ h24 : pm_H, h24 = sp h23 l0 5 h19.1.length →
    (h23.1.length < 1000) ∧
    ∀ h25 : pm_H, h25 = pm_nw h24 (0, 0) →
    (h25.1[l0]? = some (0, 10)) ∧
    (h25.1[h23.1.length]? = some (0, 0)) ∧
    ca G d m_X0_init 30 403 [.ref h23.1.length, .ref (gp h25 l0 1)] h25 fun h27 =>
    (h27.1[l0]? = some (0, 10)) ∧
    ∀ h28 : pm_H, h28 = sp h27 l0 6 h23.1.length →
    (h27.1.length < 1000) ∧
    ∀ h29 : pm_H, h29 = pm_nw h28 (0, 8) →
    (h29.1[l0]? = some (0, 10)) ∧
    (h29.1[h27.1.length]? = some (0, 8)) ∧
    ca G d m_X8_init 37 492 [.ref h27.1.length, .ref (gp h29 l0 1)] h29 fun h31 =>
    (h31.1[l0]? = some (0, 10)) ∧
    ∀ h32 : pm_H, h32 = sp h31 l0 7 h27.1.length →
    (h31.1.length < 1000) ∧
    ∀ h33 : pm_H, h33 = pm_nw h32 (0, 6) →
    (h33.1[h31.1.length]? = some (0, 6)) ∧
    ca G d m_X6_init 1 8 [.ref h31.1.length, .int 8] h33 fun h35 =>
    (h35.1[l0]? = some (0, 10)) ∧
    ∀ h36 : pm_H, h36 = sp h35 l0 8 h31.1.length →
    ∀ h37 : pm_H, h37 = si h36 l0 9 0 →
    ∀ h38 : pm_H, h38 = si h37 l0 10 0 →
    (h35.1.length < 1000) ∧
    ∀ h39 : pm_H, h39 = pm_nw h38 (6, 8) →
    (h39.1[l0]? = some (0, 10)) ∧
    ∀ h40 : pm_H, h40 = sp h39 l0 11 h35.1.length →
    ∀ h41 : pm_H, h41 = si h40 l0 12 0 →
    ∀ h42 : pm_H, h42 = si h41 l0 13 0 →
    (h39.1.length < 1000) ∧
    ∀ h43 : pm_H, h43 = pm_nw h42 (6, 2) →
    (h43.1[l0]? = some (0, 10)) ∧
    ∀ h44 : pm_H, h44 = sp h43 l0 14 h39.1.length →
    (h43.1.length < 1000) ∧
    ∀ h45 : pm_H, h45 = pm_nw h44 (0, 6) →
    (h45.1[h43.1.length]? = some (0, 6)) ∧
    ca G d m_X6_init 1 16 [.ref h43.1.length, .int 16] h45 fun h47 =>
    (h47.1[l0]? = some (0, 10)) ∧
    ∀ h48 : pm_H, h48 = sp h47 l0 15 h43.1.length →
    (h47.1.length < 1000) ∧
    ∀ h49 : pm_H, h49 = pm_nw h48 (0, 6) →
    (h49.1[h47.1.length]? = some (0, 6)) ∧
    ca G d m_X6_init 1 2 [.ref h47.1.length, .int 2] h49 fun h51 =>
    (h51.1[l0]? = some (0, 10)) ∧
    ∀ h52 : pm_H, h52 = sp h51 l0 16 h47.1.length →
    Wp G (m_X11_init, d + 1, 445, 8774, post) (135, 4584) 181 [.ref l0, .int 0] [] h52) :
    Wp G (m_X11_init, d + 1, 445, 8774, post) (0, 0) 0 [.ref l0, .null] [] h := by
  refine w_aload_n dX11_init_0 rfl ?_
  obtain ⟨e1, w⟩ := w
  refine w_objInit dX11_init_1 g_158 g_159 g_160 e1 (Nat.le_of_ble_eq_true rfl) (Nat.succ_le_succ (Nat.zero_le _)) ?_
  refine w_aload_n dX11_init_4 rfl ?_
  obtain ⟨e2, w⟩ := w
  refine w_new (N := 9) dX11_init_5 (by rfl : vwCl[7]? = some (RX7, TX7, 9)) g_161 g_162 g_134 e2 (by first | omega | decide | exact Nat.le_refl _ | (simp; done) | (simp; omega)) (by first | omega | decide | exact Nat.le_refl _ | (simp; done) | (simp; omega)) ?_
  have w := w _ rfl
  refine w_dup dX11_init_8 rfl ?_
  obtain ⟨e1, w⟩ := w
  refine w_callI (As := []) (st := [.ref h.1.length, .ref l0]) dX11_init_9 mt_X7_init (Or.inr ⟨_, g_163⟩) g_164 rfl rfl rfl e1 rfl (Nat.le_of_ble_eq_true rfl) (Nat.le_refl _) ⟨(by first | omega | decide | exact Nat.le_refl _ | (simp; done) | (simp; omega)), (by first | omega | decide | exact Nat.le_refl _ | (simp; done) | (simp; omega))⟩ w ?_
  rintro v h3 ⟨rfl, w⟩
  obtain ⟨e1, w⟩ := w
  refine w_putp dX11_init_12 lk_RX11_10 e1 rfl (Or.inr ⟨rfl, rfl, lz_RX11_10⟩) ?_
  have w := w _ rfl
  refine w_aload_n dX11_init_15 rfl ?_
  obtain ⟨e2, w⟩ := w
  refine w_new (N := 9) dX11_init_16 (by rfl : vwCl[4]? = some (RX4, TX4, 9)) g_209 g_210 g_137 e2 (by first | omega | decide | exact Nat.le_refl _ | (simp; done) | (simp; omega)) (by first | omega | decide | exact Nat.le_refl _ | (simp; done) | (simp; omega)) ?_
  have w := w _ rfl
  refine w_dup dX11_init_19 rfl ?_
  obtain ⟨e1, w⟩ := w
  refine w_callI (As := []) (st := [.ref h3.1.length, .ref l0]) dX11_init_20 mt_X4_init (Or.inr ⟨_, g_211⟩) g_212 rfl rfl rfl e1 rfl (Nat.le_of_ble_eq_true rfl) (Nat.le_refl _) ⟨(by first | omega | decide | exact Nat.le_refl _ | (simp; done) | (simp; omega)), (by first | omega | decide | exact Nat.le_refl _ | (simp; done) | (simp; omega))⟩ w ?_
  rintro v h7 ⟨rfl, w⟩
  obtain ⟨e1, w⟩ := w
  refine w_putp dX11_init_23 lk_RX11_19 e1 rfl (Or.inr ⟨rfl, rfl, lz_RX11_19⟩) ?_
  have w := w _ rfl
  refine w_aload_n dX11_init_26 rfl ?_
  obtain ⟨e2, w⟩ := w
  refine w_new (N := 9) dX11_init_27 (by rfl : vwCl[4]? = some (RX4, TX4, 9)) g_209 g_210 g_137 e2 (by first | omega | decide | exact Nat.le_refl _ | (simp; done) | (simp; omega)) (by first | omega | decide | exact Nat.le_refl _ | (simp; done) | (simp; omega)) ?_
  have w := w _ rfl
  refine w_dup dX11_init_30 rfl ?_
  obtain ⟨e1, w⟩ := w
  refine w_callI (As := []) (st := [.ref h7.1.length, .ref l0]) dX11_init_31 mt_X4_init (Or.inr ⟨_, g_211⟩) g_212 rfl rfl rfl e1 rfl (Nat.le_of_ble_eq_true rfl) (Nat.le_refl _) ⟨(by first | omega | decide | exact Nat.le_refl _ | (simp; done) | (simp; omega)), (by first | omega | decide | exact Nat.le_refl _ | (simp; done) | (simp; omega))⟩ w ?_
  rintro v h11 ⟨rfl, w⟩
  obtain ⟨e1, w⟩ := w
  refine w_putp dX11_init_34 lk_RX11_23 e1 rfl (Or.inr ⟨rfl, rfl, lz_RX11_23⟩) ?_
  have w := w _ rfl
  refine w_aload_n dX11_init_37 rfl ?_
  obtain ⟨e2, w⟩ := w
  refine w_new (N := 4) dX11_init_38 (by rfl : vwCl[9]? = some (RX10, TX10, 4)) g_316 g_317 g_141 e2 (by first | omega | decide | exact Nat.le_refl _ | (simp; done) | (simp; omega)) (by first | omega | decide | exact Nat.le_refl _ | (simp; done) | (simp; omega)) ?_
  have w := w _ rfl
  refine w_dup dX11_init_41 rfl ?_
  obtain ⟨e1, w⟩ := w
  refine w_callI (As := []) (st := [.ref h11.1.length, .ref l0]) dX11_init_42 mt_X10_init (Or.inr ⟨_, g_318⟩) g_319 rfl rfl rfl e1 rfl (Nat.le_of_ble_eq_true rfl) (Nat.le_refl _) ⟨(by first | omega | decide | exact Nat.le_refl _ | (simp; done) | (simp; omega)), (by first | omega | decide | exact Nat.le_refl _ | (simp; done) | (simp; omega))⟩ w ?_
  rintro v h15 ⟨rfl, w⟩
  obtain ⟨e1, w⟩ := w
  refine w_putp dX11_init_45 lk_RX11_29 e1 rfl (Or.inr ⟨rfl, rfl, lz_RX11_29⟩) ?_
  have w := w _ rfl
  refine w_aload_n dX11_init_48 rfl ?_
  obtain ⟨e2, w⟩ := w
  refine w_new (N := 4) dX11_init_49 (by rfl : vwCl[9]? = some (RX10, TX10, 4)) g_316 g_317 g_141 e2 (by first | omega | decide | exact Nat.le_refl _ | (simp; done) | (simp; omega)) (by first | omega | decide | exact Nat.le_refl _ | (simp; done) | (simp; omega)) ?_
  have w := w _ rfl
  refine w_dup dX11_init_52 rfl ?_
  obtain ⟨e1, w⟩ := w
  refine w_callI (As := []) (st := [.ref h15.1.length, .ref l0]) dX11_init_53 mt_X10_init (Or.inr ⟨_, g_318⟩) g_319 rfl rfl rfl e1 rfl (Nat.le_of_ble_eq_true rfl) (Nat.le_refl _) ⟨(by first | omega | decide | exact Nat.le_refl _ | (simp; done) | (simp; omega)), (by first | omega | decide | exact Nat.le_refl _ | (simp; done) | (simp; omega))⟩ w ?_
  rintro v h19 ⟨rfl, w⟩
  obtain ⟨e1, w⟩ := w
  refine w_putp dX11_init_56 lk_RX11_33 e1 rfl (Or.inr ⟨rfl, rfl, lz_RX11_33⟩) ?_
  have w := w _ rfl
  refine w_aload_n dX11_init_59 rfl ?_
  obtain ⟨e2, w⟩ := w
  refine w_new (N := 5) dX11_init_60 (by rfl : vwCl[5]? = some (RX5, TX5, 5)) g_343 g_344 g_142 e2 (by first | omega | decide | exact Nat.le_refl _ | (simp; done) | (simp; omega)) (by first | omega | decide | exact Nat.le_refl _ | (simp; done) | (simp; omega)) ?_
  have w := w _ rfl
  refine w_dup dX11_init_63 rfl ?_
  refine w_aload_n dX11_init_64 rfl ?_
  obtain ⟨e1, w⟩ := w
  refine w_getp dX11_init_65 lk_RX11_10 e1 rfl ?_
  obtain ⟨e2, w⟩ := w
  refine w_callI (As := [.ref (gp (pm_nw (sp h19 l0 4 h15.1.length) (0, 5)) l0 0)]) (st := [.ref h19.1.length, .ref l0]) dX11_init_68 mt_X5_init (Or.inl g_345) g_346 rfl rfl rfl e2 rfl (Nat.le_of_ble_eq_true rfl) (Nat.le_refl _) ⟨(by first | omega | decide | exact Nat.le_refl _ | (simp; done) | (simp; omega)), (by first | omega | decide | exact Nat.le_refl _ | (simp; done) | (simp; omega))⟩ w ?_
  rintro v h23 ⟨rfl, w⟩
  obtain ⟨e1, w⟩ := w
  refine w_putp dX11_init_71 lk_RX11_41 e1 rfl (Or.inr ⟨rfl, rfl, lz_RX11_41⟩) ?_
  have w := w _ rfl
  refine w_aload_n dX11_init_74 rfl ?_
  obtain ⟨e2, w⟩ := w
  refine w_new (N := 16) dX11_init_75 (by rfl : vwCl[0]? = some (RX0, TX0, 16)) g_392 g_393 g_144 e2 (by first | omega | decide | exact Nat.le_refl _ | (simp; done) | (simp; omega)) (by first | omega | decide | exact Nat.le_refl _ | (simp; done) | (simp; omega)) ?_
  have w := w _ rfl
  refine w_dup dX11_init_78 rfl ?_
  refine w_aload_n dX11_init_79 rfl ?_
  obtain ⟨e1, w⟩ := w
  refine w_getp dX11_init_80 lk_RX11_19 e1 rfl ?_
  obtain ⟨e2, w⟩ := w
  refine w_callI (As := [.ref (gp (pm_nw (sp h23 l0 5 h19.1.length) (0, 0)) l0 1)]) (st := [.ref h23.1.length, .ref l0]) dX11_init_83 mt_X0_init (Or.inl g_394) g_395 rfl rfl rfl e2 rfl (Nat.le_of_ble_eq_true rfl) (Nat.le_refl _) ⟨(by first | omega | decide | exact Nat.le_refl _ | (simp; done) | (simp; omega)), (by first | omega | decide | exact Nat.le_refl _ | (simp; done) | (simp; omega))⟩ w ?_
  rintro v h27 ⟨rfl, w⟩
  obtain ⟨e1, w⟩ := w
  refine w_putp dX11_init_86 lk_RX11_50 e1 rfl (Or.inr ⟨rfl, rfl, lz_RX11_50⟩) ?_
  have w := w _ rfl
  refine w_aload_n dX11_init_89 rfl ?_
  obtain ⟨e2, w⟩ := w
  refine w_new (N := 7) dX11_init_90 (by rfl : vwCl[8]? = some (RX8, TX8, 7)) g_458 g_459 g_145 e2 (by first | omega | decide | exact Nat.le_refl _ | (simp; done) | (simp; omega)) (by first | omega | decide | exact Nat.le_refl _ | (simp; done) | (simp; omega)) ?_
  have w := w _ rfl
  refine w_dup dX11_init_93 rfl ?_
  refine w_aload_n dX11_init_94 rfl ?_
  obtain ⟨e1, w⟩ := w
  refine w_getp dX11_init_95 lk_RX11_19 e1 rfl ?_
  obtain ⟨e2, w⟩ := w
  refine w_callI (As := [.ref (gp (pm_nw (sp h27 l0 6 h23.1.length) (0, 8)) l0 1)]) (st := [.ref h27.1.length, .ref l0]) dX11_init_98 mt_X8_init (Or.inl g_460) g_461 rfl rfl rfl e2 rfl (Nat.le_of_ble_eq_true rfl) (Nat.le_refl _) ⟨(by first | omega | decide | exact Nat.le_refl _ | (simp; done) | (simp; omega)), (by first | omega | decide | exact Nat.le_refl _ | (simp; done) | (simp; omega))⟩ w ?_
  rintro v h31 ⟨rfl, w⟩
  obtain ⟨e1, w⟩ := w
  refine w_putp dX11_init_101 lk_RX11_57 e1 rfl (Or.inr ⟨rfl, rfl, lz_RX11_57⟩) ?_
  have w := w _ rfl
  refine w_aload_n dX11_init_104 rfl ?_
  obtain ⟨e2, w⟩ := w
  refine w_new (N := 1) dX11_init_105 (by rfl : vwCl[6]? = some (RX6, TX6, 1)) g_493 g_235 g_139 e2 (by first | omega | decide | exact Nat.le_refl _ | (simp; done) | (simp; omega)) (by first | omega | decide | exact Nat.le_refl _ | (simp; done) | (simp; omega)) ?_
  have w := w _ rfl
  refine w_dup dX11_init_108 rfl ?_
  refine w_bipush (v := 8) dX11_init_109 rfl ?_
  obtain ⟨e1, w⟩ := w
  refine w_callI (As := [.int 8]) (st := [.ref h31.1.length, .ref l0]) dX11_init_111 mt_X6_init (Or.inl g_494) g_237 rfl rfl rfl e1 rfl (Nat.le_of_ble_eq_true rfl) (Nat.le_refl _) ⟨(by first | omega | decide | exact Nat.le_refl _ | (simp; done) | (simp; omega)), (by first | omega | decide | exact Nat.le_refl _ | (simp; done) | (simp; omega))⟩ w ?_
  rintro v h35 ⟨rfl, w⟩
  obtain ⟨e1, w⟩ := w
  refine w_putp dX11_init_114 lk_RX11_66 e1 rfl (Or.inr ⟨rfl, rfl, lz_RX11_66⟩) ?_
  have w := w _ rfl
  refine w_aload_n dX11_init_117 rfl ?_
  refine w_iconst (v := 0) dX11_init_118 rfl ?_
  refine w_puti dX11_init_119 lk_RX11_70 e1 rfl (Or.inl rfl) ?_
  have w := w _ rfl
  refine w_aload_n dX11_init_122 rfl ?_
  refine w_iconst (v := 0) dX11_init_123 rfl ?_
  refine w_puti dX11_init_124 lk_RX11_74 e1 rfl (Or.inl rfl) ?_
  have w := w _ rfl
  refine w_aload_n dX11_init_127 rfl ?_
  refine w_bipush (v := 8) dX11_init_128 rfl ?_
  obtain ⟨e2, w⟩ := w
  refine w_anew (N := 8) dX11_init_130 g_392 (by decide) rfl (by decide) e2 (by first | omega | decide | exact Nat.le_refl _ | (simp; done) | (simp; omega)) (by first | omega | decide | exact Nat.le_refl _ | (simp; done) | (simp; omega)) ?_
  have w := w _ rfl
  obtain ⟨e1, w⟩ := w
  refine w_putp dX11_init_133 lk_RX11_77 e1 rfl (Or.inr ⟨rfl, rfl, lz_RX11_77⟩) ?_
  have w := w _ rfl
  refine w_aload_n dX11_init_136 rfl ?_
  refine w_iconst (v := 0) dX11_init_137 rfl ?_
  refine w_puti dX11_init_138 lk_RX11_81 e1 rfl (Or.inl rfl) ?_
  have w := w _ rfl
  refine w_aload_n dX11_init_141 rfl ?_
  refine w_iconst (v := 0) dX11_init_142 rfl ?_
  refine w_puti dX11_init_143 lk_RX11_84 e1 rfl (Or.inl rfl) ?_
  have w := w _ rfl
  refine w_aload_n dX11_init_146 rfl ?_
  refine w_iconst (v := 2) dX11_init_147 rfl ?_
  obtain ⟨e2, w⟩ := w
  refine w_anew (N := 2) dX11_init_148 g_392 (by decide) rfl (by decide) e2 (by first | omega | decide | exact Nat.le_refl _ | (simp; done) | (simp; omega)) (by first | omega | decide | exact Nat.le_refl _ | (simp; done) | (simp; omega)) ?_
  have w := w _ rfl
  obtain ⟨e1, w⟩ := w
  refine w_putp dX11_init_151 lk_RX11_87 e1 rfl (Or.inr ⟨rfl, rfl, lz_RX11_87⟩) ?_
  have w := w _ rfl
  refine w_aload_n dX11_init_154 rfl ?_
  obtain ⟨e2, w⟩ := w
  refine w_new (N := 1) dX11_init_155 (by rfl : vwCl[6]? = some (RX6, TX6, 1)) g_493 g_235 g_139 e2 (by first | omega | decide | exact Nat.le_refl _ | (simp; done) | (simp; omega)) (by first | omega | decide | exact Nat.le_refl _ | (simp; done) | (simp; omega)) ?_
  have w := w _ rfl
  refine w_dup dX11_init_158 rfl ?_
  refine w_bipush (v := 16) dX11_init_159 rfl ?_
  obtain ⟨e1, w⟩ := w
  refine w_callI (As := [.int 16]) (st := [.ref (pm_nw (si (si (sp (pm_nw (si (si (sp h35 l0 8 h31.1.length) l0 9 0) l0 10 0) (6, 8)) l0 11 h35.1.length) l0 12 0) l0 13 0) (6, 2)).1.length, .ref l0]) dX11_init_161 mt_X6_init (Or.inl g_494) g_237 rfl rfl rfl e1 rfl (Nat.le_of_ble_eq_true rfl) (Nat.le_refl _) ⟨(by first | omega | decide | exact Nat.le_refl _ | (simp; done) | (simp; omega)), (by first | omega | decide | exact Nat.le_refl _ | (simp; done) | (simp; omega))⟩ w ?_
  rintro v h47 ⟨rfl, w⟩
  obtain ⟨e1, w⟩ := w
  refine w_putp dX11_init_164 lk_RX11_90 e1 rfl (Or.inr ⟨rfl, rfl, lz_RX11_90⟩) ?_
  have w := w _ rfl
  refine w_aload_n dX11_init_167 rfl ?_
  obtain ⟨e2, w⟩ := w
  refine w_new (N := 1) dX11_init_168 (by rfl : vwCl[6]? = some (RX6, TX6, 1)) g_493 g_235 g_139 e2 (by first | omega | decide | exact Nat.le_refl _ | (simp; done) | (simp; omega)) (by first | omega | decide | exact Nat.le_refl _ | (simp; done) | (simp; omega)) ?_
  have w := w _ rfl
  refine w_dup dX11_init_171 rfl ?_
  refine w_iconst (v := 2) dX11_init_172 rfl ?_
  obtain ⟨e1, w⟩ := w
  refine w_callI (As := [.int 2]) (st := [.ref h47.1.length, .ref l0]) dX11_init_173 mt_X6_init (Or.inl g_494) g_237 rfl rfl rfl e1 rfl (Nat.le_of_ble_eq_true rfl) (Nat.le_refl _) ⟨(by first | omega | decide | exact Nat.le_refl _ | (simp; done) | (simp; omega)), (by first | omega | decide | exact Nat.le_refl _ | (simp; done) | (simp; omega))⟩ w ?_
  rintro v h51 ⟨rfl, w⟩
  obtain ⟨e1, w⟩ := w
  refine w_putp dX11_init_176 lk_RX11_93 e1 rfl (Or.inr ⟨rfl, rfl, lz_RX11_93⟩) ?_
  have w := w _ rfl
  refine w_iconst (v := 0) dX11_init_179 rfl ?_
  refine v_istore_n (l' := [.ref l0, .int 0]) dX11_init_180 (Nat.le_of_ble_eq_true rfl) rfl ?_
  exact w
set_option maxRecDepth 20000 in
set_option maxHeartbeats 4000000 in
theorem x_X11_init_181 {G : pm_G} {d : Nat} {post : pm_PT} {h : pm_H} {k1 k2 : Nat} {l0 : Nat} {l1 : Int32} (w :
    (h.1[l0]? = some (0, 10)) ∧
    ∃ n1 : Nat, h.1[gp h l0 11]? = some (6, n1) ∧
    if (Int32.ofNat n1) ≤ l1 then (
      Wp G (m_X11_init, d + 1, 445, 8774, post) (k1, k2) 215 [.ref l0, .int 0] [] h
    ) else (
      (h.1.length < 1000) ∧
      (k1 + 31 ≤ 445) ∧
      (k2 + 419 ≤ 8774) ∧
      ∀ h2 : pm_H, h2 = pm_nw h (0, 0) →
      (h2.1[l0]? = some (0, 10)) ∧
      (h2.1[h.1.length]? = some (0, 0)) ∧
      ca G d m_X0_init 30 403 [.ref h.1.length, .ref (gp h2 l0 1)] h2 fun h4 =>
      ∃ n5 : Nat, h4.1[gp h l0 11]? = some (6, n5) ∧
      (vp_in l1 n5) ∧
      (h4.1[h.1.length]? = some (0, 0)) ∧
      ∀ h6 : pm_H, h6 = sp h4 (gp h l0 11) (l1 : Int32).toNatClampNeg h.1.length →
      Wp G (m_X11_init, d + 1, 445, 8774, post) (k1 + 1 + 30, k2 + 16 + 403) 181 [.ref l0, .int (l1 + 1)] [] h6
    )) :
    Wp G (m_X11_init, d + 1, 445, 8774, post) (k1, k2) 181 [.ref l0, .int l1] [] h := by
  refine w_iload_n dX11_init_181 rfl ?_
  refine w_aload_n dX11_init_182 rfl ?_
  obtain ⟨e1, w⟩ := w
  refine w_getp dX11_init_183 lk_RX11_77 e1 rfl ?_
  obtain ⟨n1, ln1, w⟩ := w
  refine w_alen dX11_init_186 ln1 (by decide) rfl ?_
  refine w_ic_ge (tgt := 213) dX11_init_187 rfl (fun c => ?_) (fun c => ?_)
  · rw [if_pos c] at w
    refine w_iconst (v := 0) dX11_init_213 rfl ?_
    refine v_istore_n (l' := [.ref l0, .int 0]) dX11_init_214 (Nat.le_of_ble_eq_true rfl) rfl ?_
    exact w
  · rw [if_neg c] at w
    refine w_aload_n dX11_init_190 rfl ?_
    refine w_getp dX11_init_191 lk_RX11_77 e1 rfl ?_
    refine w_iload_n dX11_init_194 rfl ?_
    obtain ⟨e3, w⟩ := w
    obtain ⟨e4, w⟩ := w
    obtain ⟨e5, w⟩ := w
    refine w_new (N := 16) dX11_init_195 (by rfl : vwCl[0]? = some (RX0, TX0, 16)) g_392 g_393 g_144 e3 (by first | omega | decide | exact Nat.le_refl _ | (simp; done) | (simp; omega)) (by first | omega | decide | exact Nat.le_refl _ | (simp; done) | (simp; omega)) ?_
    have w := w _ rfl
    refine w_dup dX11_init_198 rfl ?_
    refine w_aload_n dX11_init_199 rfl ?_
    obtain ⟨e1, w⟩ := w
    refine w_getp dX11_init_200 lk_RX11_19 e1 rfl ?_
    obtain ⟨e2, w⟩ := w
    refine w_callI (As := [.ref (gp (pm_nw h (0, 0)) l0 1)]) (st := [.ref h.1.length, .int l1, .ref (gp h l0 11)]) dX11_init_203 mt_X0_init (Or.inl g_394) g_395 rfl rfl rfl e2 rfl (Nat.le_of_ble_eq_true rfl) (Nat.le_refl _) ⟨(by first | omega | decide | exact Nat.le_refl _ | (simp; done) | (simp; omega)), (by first | omega | decide | exact Nat.le_refl _ | (simp; done) | (simp; omega))⟩ w ?_
    rintro v h4 ⟨rfl, w⟩
    obtain ⟨n5, ln5, w⟩ := w
    obtain ⟨e2, w⟩ := w
    obtain ⟨e3, w⟩ := w
    refine w_aast dX11_init_206 ln5 e3 e2 ?_
    have w := w _ rfl
    refine v_iinc (l' := [.ref l0, .int (l1 + 1)]) (v := l1 + 1) dX11_init_207 rfl rfl (Nat.le_of_ble_eq_true rfl) rfl ?_
    refine w_goto (tgt := 181) dX11_init_210 rfl ?_
    exact w
set_option maxRecDepth 20000 in
set_option maxHeartbeats 4000000 in
theorem x_X11_init_215 {G : pm_G} {d : Nat} {post : pm_PT} {h : pm_H} {k1 k2 : Nat} {l0 : Nat} {l1 : Int32} (w :
    (h.1[l0]? = some (0, 10)) ∧
    ∃ n1 : Nat, h.1[gp h l0 14]? = some (6, n1) ∧
    if (Int32.ofNat n1) ≤ l1 then (
      (k1 ≤ 445) ∧
      (k2 ≤ 8774) ∧
      post none h
    ) else (
      (h.1.length < 1000) ∧
      (k1 + 31 ≤ 445) ∧
      (k2 + 419 ≤ 8774) ∧
      ∀ h2 : pm_H, h2 = pm_nw h (0, 0) →
      (h2.1[l0]? = some (0, 10)) ∧
      (h2.1[h.1.length]? = some (0, 0)) ∧
      ca G d m_X0_init 30 403 [.ref h.1.length, .ref (gp h2 l0 1)] h2 fun h4 =>
      ∃ n5 : Nat, h4.1[gp h l0 14]? = some (6, n5) ∧
      (vp_in l1 n5) ∧
      (h4.1[h.1.length]? = some (0, 0)) ∧
      ∀ h6 : pm_H, h6 = sp h4 (gp h l0 14) (l1 : Int32).toNatClampNeg h.1.length →
      Wp G (m_X11_init, d + 1, 445, 8774, post) (k1 + 1 + 30, k2 + 16 + 403) 215 [.ref l0, .int (l1 + 1)] [] h6
    )) :
    Wp G (m_X11_init, d + 1, 445, 8774, post) (k1, k2) 215 [.ref l0, .int l1] [] h := by
  refine w_iload_n dX11_init_215 rfl ?_
  refine w_aload_n dX11_init_216 rfl ?_
  obtain ⟨e1, w⟩ := w
  refine w_getp dX11_init_217 lk_RX11_87 e1 rfl ?_
  obtain ⟨n1, ln1, w⟩ := w
  refine w_alen dX11_init_220 ln1 (by decide) rfl ?_
  refine w_ic_ge (tgt := 247) dX11_init_221 rfl (fun c => ?_) (fun c => ?_)
  · rw [if_pos c] at w
    obtain ⟨e3, w⟩ := w
    obtain ⟨e4, w⟩ := w
    exact w_return dX11_init_247 rfl ⟨e3, e4⟩ w
  · rw [if_neg c] at w
    refine w_aload_n dX11_init_224 rfl ?_
    refine w_getp dX11_init_225 lk_RX11_87 e1 rfl ?_
    refine w_iload_n dX11_init_228 rfl ?_
    obtain ⟨e3, w⟩ := w
    obtain ⟨e4, w⟩ := w
    obtain ⟨e5, w⟩ := w
    refine w_new (N := 16) dX11_init_229 (by rfl : vwCl[0]? = some (RX0, TX0, 16)) g_392 g_393 g_144 e3 (by first | omega | decide | exact Nat.le_refl _ | (simp; done) | (simp; omega)) (by first | omega | decide | exact Nat.le_refl _ | (simp; done) | (simp; omega)) ?_
    have w := w _ rfl
    refine w_dup dX11_init_232 rfl ?_
    refine w_aload_n dX11_init_233 rfl ?_
    obtain ⟨e1, w⟩ := w
    refine w_getp dX11_init_234 lk_RX11_19 e1 rfl ?_
    obtain ⟨e2, w⟩ := w
    refine w_callI (As := [.ref (gp (pm_nw h (0, 0)) l0 1)]) (st := [.ref h.1.length, .int l1, .ref (gp h l0 14)]) dX11_init_237 mt_X0_init (Or.inl g_394) g_395 rfl rfl rfl e2 rfl (Nat.le_of_ble_eq_true rfl) (Nat.le_refl _) ⟨(by first | omega | decide | exact Nat.le_refl _ | (simp; done) | (simp; omega)), (by first | omega | decide | exact Nat.le_refl _ | (simp; done) | (simp; omega))⟩ w ?_
    rintro v h4 ⟨rfl, w⟩
    obtain ⟨n5, ln5, w⟩ := w
    obtain ⟨e2, w⟩ := w
    obtain ⟨e3, w⟩ := w
    refine w_aast dX11_init_240 ln5 e3 e2 ?_
    have w := w _ rfl
    refine v_iinc (l' := [.ref l0, .int (l1 + 1)]) (v := l1 + 1) dX11_init_241 rfl rfl (Nat.le_of_ble_eq_true rfl) rfl ?_
    refine w_goto (tgt := 215) dX11_init_244 rfl ?_
    exact w
