set_option linter.all false
/-! CONSTRUCTORS: rows -/
set_option maxRecDepth 20000 in
set_option maxHeartbeats 4000000 in
theorem x_X6_init {G : pm_G} {d : Nat} {post : pm_PT} {h : pm_H} {l0 : Nat} {l1 : Int32} {n : Nat} (w :
    (l0 < h.1.length) ∧
    if 0 ≤ l1 then (
      (h.1.length < 1000) ∧
      ∃ N1 : Nat, ¬ l1 < 0 ∧ (l1 : Int32).toNatClampNeg = N1 ∧ N1 ≤ 5000 ∧ N1 ≤ n ∧
      ∀ h2 : pm_H, h2 = pm_nw h (1, N1) →
      (h2.1[l0]? = some (0, 6)) ∧
      ∀ h3 : pm_H, h3 = sp h2 l0 0 h.1.length →
      cv G d m_X6_fill [.ref l0, .int (-1)] h3 fun h5 =>
      post none h5
    ) else (
      (h.1.length < 1000) ∧
      ∀ h6 : pm_H, h6 = pm_nw h (1, 0) →
      (h6.1[l0]? = some (0, 6)) ∧
      ∀ h7 : pm_H, h7 = sp h6 l0 0 h.1.length →
      cv G d m_X6_fill [.ref l0, .int (-1)] h7 fun h9 =>
      post none h9
    )) :
    Wp G (m_X6_init, d + 1, 1, n, post) (0, 0) 0 [.ref l0, .int l1] [] h := by
  refine w_aload_n dX6_init_0 rfl ?_
  obtain ⟨e1, w⟩ := w
  refine w_objInit dX6_init_1 g_239 g_159 g_160 e1 (Nat.le_of_ble_eq_true rfl) (Nat.succ_le_succ (Nat.zero_le _)) ?_
  refine w_aload_n dX6_init_4 rfl ?_
  refine w_iload_n dX6_init_5 rfl ?_
  refine w_if_ge (tgt := 13) dX6_init_6 rfl (fun c => ?_) (fun c => ?_)
  · rw [if_pos c] at w
    refine w_iload_n dX6_init_13 rfl ?_
    obtain ⟨e2, w⟩ := w
    obtain ⟨N1, n1, n2, n3, n4, w⟩ := w
    refine w_newarr (t := 0) (N := N1) dX6_init_14 (by simp) g_248 n1 n2 n3 e2 (by first | omega | decide | exact Nat.le_refl _ | (simp; done) | (simp; omega)) (by first | omega | decide | exact Nat.le_refl _ | (simp; done) | (simp; omega)) ?_
    have w := w _ rfl
    obtain ⟨e1, w⟩ := w
    refine w_putp dX6_init_16 lk_RX6_9 e1 rfl (Or.inr ⟨rfl, rfl, lz_RX6_9⟩) ?_
    have w := w _ rfl
    refine w_aload_n dX6_init_19 rfl ?_
    refine w_iconst (v := (-1)) dX6_init_20 rfl ?_
    refine w_callV (As := [.int (-1)]) (st := []) dX6_init_21 mt_X6_fill g_240 g_241 g_242 rfl e1 rfl rfl (Nat.le_of_ble_eq_true rfl) (Nat.le_refl _) ⟨(by first | omega | decide | exact Nat.le_refl _ | (simp; done) | (simp; omega)), (by first | omega | decide | exact Nat.le_refl _ | (simp; done) | (simp; omega))⟩ w ?_
    rintro v h5 ⟨rfl, w⟩
    exact w_return dX6_init_24 rfl ⟨(by first | omega | decide | exact Nat.le_refl _ | (simp; done) | (simp; omega)), (by first | omega | decide | exact Nat.le_refl _ | (simp; done) | (simp; omega))⟩ w
  · rw [if_neg c] at w
    refine w_iconst (v := 0) dX6_init_9 rfl ?_
    refine w_goto (tgt := 14) dX6_init_10 rfl ?_
    obtain ⟨e2, w⟩ := w
    refine w_newarr (t := 0) (N := 0) dX6_init_14 (by simp) g_248 (by decide) rfl (by decide) e2 (by first | omega | decide | exact Nat.le_refl _ | (simp; done) | (simp; omega)) (by first | omega | decide | exact Nat.le_refl _ | (simp; done) | (simp; omega)) ?_
    have w := w _ rfl
    obtain ⟨e1, w⟩ := w
    refine w_putp dX6_init_16 lk_RX6_9 e1 rfl (Or.inr ⟨rfl, rfl, lz_RX6_9⟩) ?_
    have w := w _ rfl
    refine w_aload_n dX6_init_19 rfl ?_
    refine w_iconst (v := (-1)) dX6_init_20 rfl ?_
    refine w_callV (As := [.int (-1)]) (st := []) dX6_init_21 mt_X6_fill g_240 g_241 g_242 rfl e1 rfl rfl (Nat.le_of_ble_eq_true rfl) (Nat.le_refl _) ⟨(by first | omega | decide | exact Nat.le_refl _ | (simp; done) | (simp; omega)), (by first | omega | decide | exact Nat.le_refl _ | (simp; done) | (simp; omega))⟩ w ?_
    rintro v h9 ⟨rfl, w⟩
    exact w_return dX6_init_24 rfl ⟨(by first | omega | decide | exact Nat.le_refl _ | (simp; done) | (simp; omega)), (by first | omega | decide | exact Nat.le_refl _ | (simp; done) | (simp; omega))⟩ w
set_option maxRecDepth 20000 in
set_option maxHeartbeats 4000000 in
theorem x_X3_init {G : pm_G} {d : Nat} {post : pm_PT} {h : pm_H} {l0 : Nat} {l1 : Int32} {n : Nat} (w :
    (l0 < h.1.length) ∧
    (h.1[l0]? = some (0, 3)) ∧
    ∀ h1 : pm_H, h1 = si h l0 1 0 →
    if 0 ≤ l1 then (
      (h.1.length < 1000) ∧
      ∃ N2 : Nat, ¬ l1 < 0 ∧ (l1 : Int32).toNatClampNeg = N2 ∧ N2 ≤ 5000 ∧ N2 ≤ n ∧
      ∀ h3 : pm_H, h3 = pm_nw h1 (2, N2) →
      (h3.1[l0]? = some (0, 3)) ∧
      ∀ h4 : pm_H, h4 = sp h3 l0 0 h.1.length →
      post none h4
    ) else (
      (h.1.length < 1000) ∧
      ∀ h5 : pm_H, h5 = pm_nw h1 (2, 0) →
      (h5.1[l0]? = some (0, 3)) ∧
      ∀ h6 : pm_H, h6 = sp h5 l0 0 h.1.length →
      post none h6
    )) :
    Wp G (m_X3_init, d + 1, 1, n, post) (0, 0) 0 [.ref l0, .int l1] [] h := by
  refine w_aload_n dX3_init_0 rfl ?_
  obtain ⟨e1, w⟩ := w
  refine w_objInit dX3_init_1 g_220 g_159 g_160 e1 (Nat.le_of_ble_eq_true rfl) (Nat.succ_le_succ (Nat.zero_le _)) ?_
  refine w_aload_n dX3_init_4 rfl ?_
  refine w_iconst (v := 0) dX3_init_5 rfl ?_
  obtain ⟨e2, w⟩ := w
  refine w_puti dX3_init_6 lk_RX3_9 e2 rfl (Or.inl rfl) ?_
  have w := w _ rfl
  refine w_aload_n dX3_init_9 rfl ?_
  refine w_iload_n dX3_init_10 rfl ?_
  refine w_if_ge (tgt := 18) dX3_init_11 rfl (fun c => ?_) (fun c => ?_)
  · rw [if_pos c] at w
    refine w_iload_n dX3_init_18 rfl ?_
    obtain ⟨e3, w⟩ := w
    obtain ⟨N2, n1, n2, n3, n4, w⟩ := w
    refine w_newarr (t := 1) (N := N2) dX3_init_19 (by simp) g_233 n1 n2 n3 e3 (by first | omega | decide | exact Nat.le_refl _ | (simp; done) | (simp; omega)) (by first | omega | decide | exact Nat.le_refl _ | (simp; done) | (simp; omega)) ?_
    have w := w _ rfl
    obtain ⟨e1, w⟩ := w
    refine w_putp dX3_init_21 lk_RX3_15 e1 rfl (Or.inr ⟨rfl, rfl, lz_RX3_15⟩) ?_
    have w := w _ rfl
    exact w_return dX3_init_24 rfl ⟨(by first | omega | decide | exact Nat.le_refl _ | (simp; done) | (simp; omega)), (by first | omega | decide | exact Nat.le_refl _ | (simp; done) | (simp; omega))⟩ w
  · rw [if_neg c] at w
    refine w_iconst (v := 0) dX3_init_14 rfl ?_
    refine w_goto (tgt := 19) dX3_init_15 rfl ?_
    obtain ⟨e3, w⟩ := w
    refine w_newarr (t := 1) (N := 0) dX3_init_19 (by simp) g_233 (by decide) rfl (by decide) e3 (by first | omega | decide | exact Nat.le_refl _ | (simp; done) | (simp; omega)) (by first | omega | decide | exact Nat.le_refl _ | (simp; done) | (simp; omega)) ?_
    have w := w _ rfl
    obtain ⟨e1, w⟩ := w
    refine w_putp dX3_init_21 lk_RX3_15 e1 rfl (Or.inr ⟨rfl, rfl, lz_RX3_15⟩) ?_
    have w := w _ rfl
    exact w_return dX3_init_24 rfl ⟨(by first | omega | decide | exact Nat.le_refl _ | (simp; done) | (simp; omega)), (by first | omega | decide | exact Nat.le_refl _ | (simp; done) | (simp; omega))⟩ w
set_option maxRecDepth 20000 in
set_option maxHeartbeats 4000000 in
theorem x_X1_init {G : pm_G} {d : Nat} {post : pm_PT} {h : pm_H} {l0 : Nat} (w :
    (l0 < h.1.length) ∧
    (h.1.length < 1000) ∧
    ∀ h1 : pm_H, h1 = pm_nw h (0, 6) →
    (h1.1[h.1.length]? = some (0, 6)) ∧
    ca G d m_X6_init 1 1000 [.ref h.1.length, .int 1000] h1 fun h3 =>
    (h3.1[l0]? = some (0, 1)) ∧
    ∀ h4 : pm_H, h4 = sp h3 l0 0 h.1.length →
    ∀ h5 : pm_H, h5 = si h4 l0 1 0 →
    (h3.1.length < 1000) ∧
    ∀ h6 : pm_H, h6 = pm_nw h5 (0, 6) →
    (h6.1[h3.1.length]? = some (0, 6)) ∧
    ca G d m_X6_init 1 64 [.ref h3.1.length, .int 64] h6 fun h8 =>
    (h8.1[l0]? = some (0, 1)) ∧
    ∀ h9 : pm_H, h9 = sp h8 l0 2 h3.1.length →
    post none h9) :
    Wp G (m_X1_init, d + 1, 4, 1066, post) (0, 0) 0 [.ref l0] [] h := by
  refine w_aload_n dX1_init_0 rfl ?_
  obtain ⟨e1, w⟩ := w
  refine w_objInit dX1_init_1 g_254 g_159 g_160 e1 (Nat.le_of_ble_eq_true rfl) (Nat.succ_le_succ (Nat.zero_le _)) ?_
  refine w_aload_n dX1_init_4 rfl ?_
  obtain ⟨e2, w⟩ := w
  refine w_new (N := 1) dX1_init_5 (by rfl : vwCl[6]? = some (RX6, TX6, 1)) g_255 g_235 g_139 e2 (by first | omega | decide | exact Nat.le_refl _ | (simp; done) | (simp; omega)) (by first | omega | decide | exact Nat.le_refl _ | (simp; done) | (simp; omega)) ?_
  have w := w _ rfl
  refine w_dup dX1_init_8 rfl ?_
  refine w_sipush (v := 1000) dX1_init_9 rfl ?_
  obtain ⟨e1, w⟩ := w
  refine w_callI (As := [.int 1000]) (st := [.ref h.1.length, .ref l0]) dX1_init_12 mt_X6_init (Or.inl g_256) g_237 rfl rfl rfl e1 rfl (Nat.le_of_ble_eq_true rfl) (Nat.le_refl _) ⟨(by first | omega | decide | exact Nat.le_refl _ | (simp; done) | (simp; omega)), (by first | omega | decide | exact Nat.le_refl _ | (simp; done) | (simp; omega))⟩ w ?_
  rintro v h3 ⟨rfl, w⟩
  obtain ⟨e1, w⟩ := w
  refine w_putp dX1_init_15 lk_RX1_14 e1 rfl (Or.inr ⟨rfl, rfl, lz_RX1_14⟩) ?_
  have w := w _ rfl
  refine w_aload_n dX1_init_18 rfl ?_
  refine w_iconst (v := 0) dX1_init_19 rfl ?_
  refine w_puti dX1_init_20 lk_RX1_18 e1 rfl (Or.inl rfl) ?_
  have w := w _ rfl
  refine w_aload_n dX1_init_23 rfl ?_
  obtain ⟨e2, w⟩ := w
  refine w_new (N := 1) dX1_init_24 (by rfl : vwCl[6]? = some (RX6, TX6, 1)) g_255 g_235 g_139 e2 (by first | omega | decide | exact Nat.le_refl _ | (simp; done) | (simp; omega)) (by first | omega | decide | exact Nat.le_refl _ | (simp; done) | (simp; omega)) ?_
  have w := w _ rfl
  refine w_dup dX1_init_27 rfl ?_
  refine w_bipush (v := 64) dX1_init_28 rfl ?_
  obtain ⟨e1, w⟩ := w
  refine w_callI (As := [.int 64]) (st := [.ref h3.1.length, .ref l0]) dX1_init_30 mt_X6_init (Or.inl g_256) g_237 rfl rfl rfl e1 rfl (Nat.le_of_ble_eq_true rfl) (Nat.le_refl _) ⟨(by first | omega | decide | exact Nat.le_refl _ | (simp; done) | (simp; omega)), (by first | omega | decide | exact Nat.le_refl _ | (simp; done) | (simp; omega))⟩ w ?_
  rintro v h8 ⟨rfl, w⟩
  obtain ⟨e1, w⟩ := w
  refine w_putp dX1_init_33 lk_RX1_22 e1 rfl (Or.inr ⟨rfl, rfl, lz_RX1_22⟩) ?_
  have w := w _ rfl
  exact w_return dX1_init_36 rfl ⟨(by first | omega | decide | exact Nat.le_refl _ | (simp; done) | (simp; omega)), (by first | omega | decide | exact Nat.le_refl _ | (simp; done) | (simp; omega))⟩ w
set_option maxRecDepth 20000 in
set_option maxHeartbeats 4000000 in
theorem x_X7_init {G : pm_G} {d : Nat} {post : pm_PT} {h : pm_H} {l0 : Nat} (w :
    (l0 < h.1.length) ∧
    (h.1.length < 1000) ∧
    ∀ h1 : pm_H, h1 = pm_nw h (3, 1000) →
    (h1.1[l0]? = some (0, 7)) ∧
    ∀ h2 : pm_H, h2 = sp h1 l0 0 h.1.length →
    ∀ h3 : pm_H, h3 = si h2 l0 1 0 →
    ∀ h4 : pm_H, h4 = si h3 l0 2 0 →
    ∀ h5 : pm_H, h5 = si h4 l0 3 0 →
    ∀ h6 : pm_H, h6 = si h5 l0 4 0 →
    ∀ h7 : pm_H, h7 = sp h6 l0 5 1000 →
    ∀ h8 : pm_H, h8 = sl h7 l0 6 (0 : Int64) →
    ∀ h9 : pm_H, h9 = si h8 l0 7 (-1) →
    ∀ h10 : pm_H, h10 = si h9 l0 8 (-1) →
    post none h10) :
    Wp G (m_X7_init, d + 1, 1, 1000, post) (0, 0) 0 [.ref l0] [] h := by
  refine w_aload_n dX7_init_0 rfl ?_
  obtain ⟨e1, w⟩ := w
  refine w_objInit dX7_init_1 g_166 g_159 g_160 e1 (Nat.le_of_ble_eq_true rfl) (Nat.succ_le_succ (Nat.zero_le _)) ?_
  refine w_aload_n dX7_init_4 rfl ?_
  refine w_sipush (v := 1000) dX7_init_5 rfl ?_
  obtain ⟨e2, w⟩ := w
  refine w_newarr (t := 2) (N := 1000) dX7_init_8 (by simp) g_208 (by decide) rfl (by decide) e2 (by first | omega | decide | exact Nat.le_refl _ | (simp; done) | (simp; omega)) (by first | omega | decide | exact Nat.le_refl _ | (simp; done) | (simp; omega)) ?_
  have w := w _ rfl
  obtain ⟨e1, w⟩ := w
  refine w_putp dX7_init_10 lk_RX7_11 e1 rfl (Or.inr ⟨rfl, rfl, lz_RX7_11⟩) ?_
  have w := w _ rfl
  refine w_aload_n dX7_init_13 rfl ?_
  refine w_iconst (v := 0) dX7_init_14 rfl ?_
  refine w_puti dX7_init_15 lk_RX7_15 e1 rfl (Or.inl rfl) ?_
  have w := w _ rfl
  refine w_aload_n dX7_init_18 rfl ?_
  refine w_iconst (v := 0) dX7_init_19 rfl ?_
  refine w_puti dX7_init_20 lk_RX7_19 e1 rfl (Or.inl rfl) ?_
  have w := w _ rfl
  refine w_aload_n dX7_init_23 rfl ?_
  refine w_iconst (v := 0) dX7_init_24 rfl ?_
  refine w_puti dX7_init_25 lk_RX7_22 e1 rfl (Or.inl rfl) ?_
  have w := w _ rfl
  refine w_aload_n dX7_init_28 rfl ?_
  refine w_iconst (v := 0) dX7_init_29 rfl ?_
  refine w_puti dX7_init_30 lk_RX7_25 e1 rfl (Or.inl rfl) ?_
  have w := w _ rfl
  refine w_aload_n dX7_init_33 rfl ?_
  refine w_getw (i := 0) dX7_init_34 rfl g_167 ?_
  refine w_putp dX7_init_37 lk_RX7_34 e1 rfl (Or.inl rfl) ?_
  have w := w _ rfl
  refine w_aload_n dX7_init_40 rfl ?_
  refine w_lconst (v := 0) dX7_init_41 rfl ?_
  refine w_putl dX7_init_42 lk_RX7_37 e1 rfl (Or.inl rfl) ?_
  have w := w _ rfl
  refine w_aload_n dX7_init_45 rfl ?_
  refine w_iconst (v := (-1)) dX7_init_46 rfl ?_
  refine w_puti dX7_init_47 lk_RX7_41 e1 rfl (Or.inl rfl) ?_
  have w := w _ rfl
  refine w_aload_n dX7_init_50 rfl ?_
  refine w_iconst (v := (-1)) dX7_init_51 rfl ?_
  refine w_puti dX7_init_52 lk_RX7_44 e1 rfl (Or.inl rfl) ?_
  have w := w _ rfl
  exact w_return dX7_init_55 rfl ⟨(by first | omega | decide | exact Nat.le_refl _ | (simp; done) | (simp; omega)), (by first | omega | decide | exact Nat.le_refl _ | (simp; done) | (simp; omega))⟩ w
set_option maxRecDepth 20000 in
set_option maxHeartbeats 4000000 in
theorem x_X2_init {G : pm_G} {d : Nat} {post : pm_PT} {h : pm_H} {l0 : Nat} {l1 : Nat} (w :
    (l0 < h.1.length) ∧
    (h.1.length < 1000) ∧
    ∀ h1 : pm_H, h1 = pm_nw h (0, 6) →
    (h1.1[h.1.length]? = some (0, 6)) ∧
    ca G d m_X6_init 1 64 [.ref h.1.length, .int 64] h1 fun h3 =>
    (h3.1[l0]? = some (0, 2)) ∧
    ∀ h4 : pm_H, h4 = sp h3 l0 1 h.1.length →
    ∀ h5 : pm_H, h5 = si h4 l0 2 0 →
    ∀ h6 : pm_H, h6 = si h5 l0 3 0 →
    ∀ h7 : pm_H, h7 = si h6 l0 4 0 →
    ∀ h8 : pm_H, h8 = si h7 l0 5 1 →
    ∀ h9 : pm_H, h9 = sp h8 l0 0 l1 →
    post none h9) :
    Wp G (m_X2_init, d + 1, 2, 65, post) (0, 0) 0 [.ref l0, .ref l1] [] h := by
  refine w_aload_n dX2_init_0 rfl ?_
  obtain ⟨e1, w⟩ := w
  refine w_objInit dX2_init_1 g_354 g_159 g_160 e1 (Nat.le_of_ble_eq_true rfl) (Nat.succ_le_succ (Nat.zero_le _)) ?_
  refine w_aload_n dX2_init_4 rfl ?_
  obtain ⟨e2, w⟩ := w
  refine w_new (N := 1) dX2_init_5 (by rfl : vwCl[6]? = some (RX6, TX6, 1)) g_355 g_235 g_139 e2 (by first | omega | decide | exact Nat.le_refl _ | (simp; done) | (simp; omega)) (by first | omega | decide | exact Nat.le_refl _ | (simp; done) | (simp; omega)) ?_
  have w := w _ rfl
  refine w_dup dX2_init_8 rfl ?_
  refine w_bipush (v := 64) dX2_init_9 rfl ?_
  obtain ⟨e1, w⟩ := w
  refine w_callI (As := [.int 64]) (st := [.ref h.1.length, .ref l0]) dX2_init_11 mt_X6_init (Or.inl g_356) g_237 rfl rfl rfl e1 rfl (Nat.le_of_ble_eq_true rfl) (Nat.le_refl _) ⟨(by first | omega | decide | exact Nat.le_refl _ | (simp; done) | (simp; omega)), (by first | omega | decide | exact Nat.le_refl _ | (simp; done) | (simp; omega))⟩ w ?_
  rintro v h3 ⟨rfl, w⟩
  obtain ⟨e1, w⟩ := w
  refine w_putp dX2_init_14 lk_RX2_14 e1 rfl (Or.inr ⟨rfl, rfl, lz_RX2_14⟩) ?_
  have w := w _ rfl
  refine w_aload_n dX2_init_17 rfl ?_
  refine w_iconst (v := 0) dX2_init_18 rfl ?_
  refine w_puti dX2_init_19 lk_RX2_18 e1 rfl (Or.inl rfl) ?_
  have w := w _ rfl
  refine w_aload_n dX2_init_22 rfl ?_
  refine w_iconst (v := 0) dX2_init_23 rfl ?_
  refine w_puti dX2_init_24 lk_RX2_22 e1 rfl (Or.inl rfl) ?_
  have w := w _ rfl
  refine w_aload_n dX2_init_27 rfl ?_
  refine w_iconst (v := 0) dX2_init_28 rfl ?_
  refine w_puti dX2_init_29 lk_RX2_25 e1 rfl (Or.inl rfl) ?_
  have w := w _ rfl
  refine w_aload_n dX2_init_32 rfl ?_
  refine w_iconst (v := 1) dX2_init_33 rfl ?_
  refine w_putz dX2_init_34 lk_RX2_28 e1 rfl (Or.inl rfl) (by decide) ?_
  have w := w _ rfl
  refine w_aload_n dX2_init_37 rfl ?_
  refine w_aload_n dX2_init_38 rfl ?_
  refine w_putp dX2_init_39 lk_RX2_32 e1 rfl (Or.inr ⟨rfl, rfl, lz_RX2_32⟩) ?_
  have w := w _ rfl
  exact w_return dX2_init_42 rfl ⟨(by first | omega | decide | exact Nat.le_refl _ | (simp; done) | (simp; omega)), (by first | omega | decide | exact Nat.le_refl _ | (simp; done) | (simp; omega))⟩ w
set_option maxRecDepth 20000 in
set_option maxHeartbeats 4000000 in
theorem x_X5_init {G : pm_G} {d : Nat} {post : pm_PT} {h : pm_H} {l0 : Nat} {l1 : Nat} (w :
    (l0 < h.1.length) ∧
    (h.1[l0]? = some (0, 5)) ∧
    ∀ h1 : pm_H, h1 = si h l0 2 0 →
    ∀ h2 : pm_H, h2 = si h1 l0 3 0 →
    ∀ h3 : pm_H, h3 = si h2 l0 4 0 →
    ∀ h4 : pm_H, h4 = sp h3 l0 0 l1 →
    (h.1.length < 1000) ∧
    ∀ h5 : pm_H, h5 = pm_nw h4 (0, 2) →
    (h5.1[h.1.length]? = some (0, 2)) ∧
    ca G d m_X2_init 2 65 [.ref h.1.length, .ref l1] h5 fun h7 =>
    (h7.1[l0]? = some (0, 5)) ∧
    ∀ h8 : pm_H, h8 = sp h7 l0 1 h.1.length →
    post none h8) :
    Wp G (m_X5_init, d + 1, 3, 71, post) (0, 0) 0 [.ref l0, .ref l1] [] h := by
  refine w_aload_n dX5_init_0 rfl ?_
  obtain ⟨e1, w⟩ := w
  refine w_objInit dX5_init_1 g_348 g_159 g_160 e1 (Nat.le_of_ble_eq_true rfl) (Nat.succ_le_succ (Nat.zero_le _)) ?_
  refine w_aload_n dX5_init_4 rfl ?_
  refine w_iconst (v := 0) dX5_init_5 rfl ?_
  obtain ⟨e2, w⟩ := w
  refine w_puti dX5_init_6 lk_RX5_9 e2 rfl (Or.inl rfl) ?_
  have w := w _ rfl
  refine w_aload_n dX5_init_9 rfl ?_
  refine w_iconst (v := 0) dX5_init_10 rfl ?_
  refine w_putz dX5_init_11 lk_RX5_15 e2 rfl (Or.inl rfl) (by decide) ?_
  have w := w _ rfl
  refine w_aload_n dX5_init_14 rfl ?_
  refine w_iconst (v := 0) dX5_init_15 rfl ?_
  refine w_putz dX5_init_16 lk_RX5_19 e2 rfl (Or.inl rfl) (by decide) ?_
  have w := w _ rfl
  refine w_aload_n dX5_init_19 rfl ?_
  refine w_aload_n dX5_init_20 rfl ?_
  refine w_putp dX5_init_21 lk_RX5_22 e2 rfl (Or.inr ⟨rfl, rfl, lz_RX5_22⟩) ?_
  have w := w _ rfl
  refine w_aload_n dX5_init_24 rfl ?_
  obtain ⟨e3, w⟩ := w
  refine w_new (N := 6) dX5_init_25 (by rfl : vwCl[2]? = some (RX2, TX2, 6)) g_349 g_350 g_143 e3 (by first | omega | decide | exact Nat.le_refl _ | (simp; done) | (simp; omega)) (by first | omega | decide | exact Nat.le_refl _ | (simp; done) | (simp; omega)) ?_
  have w := w _ rfl
  refine w_dup dX5_init_28 rfl ?_
  refine w_aload_n dX5_init_29 rfl ?_
  obtain ⟨e1, w⟩ := w
  refine w_callI (As := [.ref l1]) (st := [.ref h.1.length, .ref l0]) dX5_init_30 mt_X2_init (Or.inl g_351) g_352 rfl rfl rfl e1 rfl (Nat.le_of_ble_eq_true rfl) (Nat.le_refl _) ⟨(by first | omega | decide | exact Nat.le_refl _ | (simp; done) | (simp; omega)), (by first | omega | decide | exact Nat.le_refl _ | (simp; done) | (simp; omega))⟩ w ?_
  rintro v h7 ⟨rfl, w⟩
  obtain ⟨e1, w⟩ := w
  refine w_putp dX5_init_33 lk_RX5_31 e1 rfl (Or.inr ⟨rfl, rfl, lz_RX5_31⟩) ?_
  have w := w _ rfl
  exact w_return dX5_init_36 rfl ⟨(by first | omega | decide | exact Nat.le_refl _ | (simp; done) | (simp; omega)), (by first | omega | decide | exact Nat.le_refl _ | (simp; done) | (simp; omega))⟩ w
set_option maxRecDepth 20000 in
set_option maxHeartbeats 4000000 in
theorem x_X4_init {G : pm_G} {d : Nat} {post : pm_PT} {h : pm_H} {l0 : Nat} (w :
    (l0 < h.1.length) ∧
    (h.1.length < 1000) ∧
    ∀ h1 : pm_H, h1 = pm_nw h (0, 3) →
    (h1.1[h.1.length]? = some (0, 3)) ∧
    ca G d m_X3_init 1 3 [.ref h.1.length, .int 3] h1 fun h3 =>
    (h3.1[l0]? = some (0, 4)) ∧
    ∀ h4 : pm_H, h4 = sp h3 l0 0 h.1.length →
    (h3.1.length < 1000) ∧
    ∀ h5 : pm_H, h5 = pm_nw h4 (0, 3) →
    (h5.1[h3.1.length]? = some (0, 3)) ∧
    ca G d m_X3_init 1 2 [.ref h3.1.length, .int 2] h5 fun h7 =>
    (h7.1[l0]? = some (0, 4)) ∧
    ∀ h8 : pm_H, h8 = sp h7 l0 1 h3.1.length →
    (h7.1.length < 1000) ∧
    ∀ h9 : pm_H, h9 = pm_nw h8 (0, 3) →
    (h9.1[h7.1.length]? = some (0, 3)) ∧
    ca G d m_X3_init 1 20 [.ref h7.1.length, .int 20] h9 fun h11 =>
    (h11.1[l0]? = some (0, 4)) ∧
    ∀ h12 : pm_H, h12 = sp h11 l0 2 h7.1.length →
    (h11.1.length < 1000) ∧
    ∀ h13 : pm_H, h13 = pm_nw h12 (0, 6) →
    (h13.1[h11.1.length]? = some (0, 6)) ∧
    ca G d m_X6_init 1 2 [.ref h11.1.length, .int 2] h13 fun h15 =>
    (h15.1[l0]? = some (0, 4)) ∧
    ∀ h16 : pm_H, h16 = sp h15 l0 3 h11.1.length →
    (h15.1.length < 1000) ∧
    ∀ h17 : pm_H, h17 = pm_nw h16 (0, 6) →
    (h17.1[h15.1.length]? = some (0, 6)) ∧
    ca G d m_X6_init 1 20 [.ref h15.1.length, .int 20] h17 fun h19 =>
    (h19.1[l0]? = some (0, 4)) ∧
    ∀ h20 : pm_H, h20 = sp h19 l0 4 h15.1.length →
    (h19.1.length < 1000) ∧
    ∀ h21 : pm_H, h21 = pm_nw h20 (0, 6) →
    (h21.1[h19.1.length]? = some (0, 6)) ∧
    ca G d m_X6_init 1 20 [.ref h19.1.length, .int 20] h21 fun h23 =>
    (h23.1[l0]? = some (0, 4)) ∧
    ∀ h24 : pm_H, h24 = sp h23 l0 5 h19.1.length →
    (h23.1.length < 1000) ∧
    ∀ h25 : pm_H, h25 = pm_nw h24 (4, 20) →
    (h25.1[l0]? = some (0, 4)) ∧
    ∀ h26 : pm_H, h26 = sp h25 l0 6 h23.1.length →
    (h25.1.length < 1000) ∧
    ∀ h27 : pm_H, h27 = pm_nw h26 (0, 1) →
    (h27.1[h25.1.length]? = some (0, 1)) ∧
    ca G d m_X1_init 4 1066 [.ref h25.1.length] h27 fun h29 =>
    (h29.1[l0]? = some (0, 4)) ∧
    ∀ h30 : pm_H, h30 = sp h29 l0 7 h25.1.length →
    ∀ h31 : pm_H, h31 = si h30 l0 8 2 →
    post none h31) :
    Wp G (m_X4_init, d + 1, 18, 1165, post) (0, 0) 0 [.ref l0] [] h := by
  refine w_aload_n dX4_init_0 rfl ?_
  obtain ⟨e1, w⟩ := w
  refine w_objInit dX4_init_1 g_214 g_159 g_160 e1 (Nat.le_of_ble_eq_true rfl) (Nat.succ_le_succ (Nat.zero_le _)) ?_
  refine w_aload_n dX4_init_4 rfl ?_
  obtain ⟨e2, w⟩ := w
  refine w_new (N := 2) dX4_init_5 (by rfl : vwCl[3]? = some (RX3, TX3, 2)) g_215 g_216 g_138 e2 (by first | omega | decide | exact Nat.le_refl _ | (simp; done) | (simp; omega)) (by first | omega | decide | exact Nat.le_refl _ | (simp; done) | (simp; omega)) ?_
  have w := w _ rfl
  refine w_dup dX4_init_8 rfl ?_
  refine w_iconst (v := 3) dX4_init_9 rfl ?_
  obtain ⟨e1, w⟩ := w
  refine w_callI (As := [.int 3]) (st := [.ref h.1.length, .ref l0]) dX4_init_10 mt_X3_init (Or.inl g_217) g_218 rfl rfl rfl e1 rfl (Nat.le_of_ble_eq_true rfl) (Nat.le_refl _) ⟨(by first | omega | decide | exact Nat.le_refl _ | (simp; done) | (simp; omega)), (by first | omega | decide | exact Nat.le_refl _ | (simp; done) | (simp; omega))⟩ w ?_
  rintro v h3 ⟨rfl, w⟩
  obtain ⟨e1, w⟩ := w
  refine w_putp dX4_init_13 lk_RX4_14 e1 rfl (Or.inr ⟨rfl, rfl, lz_RX4_14⟩) ?_
  have w := w _ rfl
  refine w_aload_n dX4_init_16 rfl ?_
  obtain ⟨e2, w⟩ := w
  refine w_new (N := 2) dX4_init_17 (by rfl : vwCl[3]? = some (RX3, TX3, 2)) g_215 g_216 g_138 e2 (by first | omega | decide | exact Nat.le_refl _ | (simp; done) | (simp; omega)) (by first | omega | decide | exact Nat.le_refl _ | (simp; done) | (simp; omega)) ?_
  have w := w _ rfl
  refine w_dup dX4_init_20 rfl ?_
  refine w_iconst (v := 2) dX4_init_21 rfl ?_
  obtain ⟨e1, w⟩ := w
  refine w_callI (As := [.int 2]) (st := [.ref h3.1.length, .ref l0]) dX4_init_22 mt_X3_init (Or.inl g_217) g_218 rfl rfl rfl e1 rfl (Nat.le_of_ble_eq_true rfl) (Nat.le_refl _) ⟨(by first | omega | decide | exact Nat.le_refl _ | (simp; done) | (simp; omega)), (by first | omega | decide | exact Nat.le_refl _ | (simp; done) | (simp; omega))⟩ w ?_
  rintro v h7 ⟨rfl, w⟩
  obtain ⟨e1, w⟩ := w
  refine w_putp dX4_init_25 lk_RX4_20 e1 rfl (Or.inr ⟨rfl, rfl, lz_RX4_20⟩) ?_
  have w := w _ rfl
  refine w_aload_n dX4_init_28 rfl ?_
  obtain ⟨e2, w⟩ := w
  refine w_new (N := 2) dX4_init_29 (by rfl : vwCl[3]? = some (RX3, TX3, 2)) g_215 g_216 g_138 e2 (by first | omega | decide | exact Nat.le_refl _ | (simp; done) | (simp; omega)) (by first | omega | decide | exact Nat.le_refl _ | (simp; done) | (simp; omega)) ?_
  have w := w _ rfl
  refine w_dup dX4_init_32 rfl ?_
  refine w_bipush (v := 20) dX4_init_33 rfl ?_
  obtain ⟨e1, w⟩ := w
  refine w_callI (As := [.int 20]) (st := [.ref h7.1.length, .ref l0]) dX4_init_35 mt_X3_init (Or.inl g_217) g_218 rfl rfl rfl e1 rfl (Nat.le_of_ble_eq_true rfl) (Nat.le_refl _) ⟨(by first | omega | decide | exact Nat.le_refl _ | (simp; done) | (simp; omega)), (by first | omega | decide | exact Nat.le_refl _ | (simp; done) | (simp; omega))⟩ w ?_
  rintro v h11 ⟨rfl, w⟩
  obtain ⟨e1, w⟩ := w
  refine w_putp dX4_init_38 lk_RX4_23 e1 rfl (Or.inr ⟨rfl, rfl, lz_RX4_23⟩) ?_
  have w := w _ rfl
  refine w_aload_n dX4_init_41 rfl ?_
  obtain ⟨e2, w⟩ := w
  refine w_new (N := 1) dX4_init_42 (by rfl : vwCl[6]? = some (RX6, TX6, 1)) g_234 g_235 g_139 e2 (by first | omega | decide | exact Nat.le_refl _ | (simp; done) | (simp; omega)) (by first | omega | decide | exact Nat.le_refl _ | (simp; done) | (simp; omega)) ?_
  have w := w _ rfl
  refine w_dup dX4_init_45 rfl ?_
  refine w_iconst (v := 2) dX4_init_46 rfl ?_
  obtain ⟨e1, w⟩ := w
  refine w_callI (As := [.int 2]) (st := [.ref h11.1.length, .ref l0]) dX4_init_47 mt_X6_init (Or.inl g_236) g_237 rfl rfl rfl e1 rfl (Nat.le_of_ble_eq_true rfl) (Nat.le_refl _) ⟨(by first | omega | decide | exact Nat.le_refl _ | (simp; done) | (simp; omega)), (by first | omega | decide | exact Nat.le_refl _ | (simp; done) | (simp; omega))⟩ w ?_
  rintro v h15 ⟨rfl, w⟩
  obtain ⟨e1, w⟩ := w
  refine w_putp dX4_init_50 lk_RX4_29 e1 rfl (Or.inr ⟨rfl, rfl, lz_RX4_29⟩) ?_
  have w := w _ rfl
  refine w_aload_n dX4_init_53 rfl ?_
  obtain ⟨e2, w⟩ := w
  refine w_new (N := 1) dX4_init_54 (by rfl : vwCl[6]? = some (RX6, TX6, 1)) g_234 g_235 g_139 e2 (by first | omega | decide | exact Nat.le_refl _ | (simp; done) | (simp; omega)) (by first | omega | decide | exact Nat.le_refl _ | (simp; done) | (simp; omega)) ?_
  have w := w _ rfl
  refine w_dup dX4_init_57 rfl ?_
  refine w_bipush (v := 20) dX4_init_58 rfl ?_
  obtain ⟨e1, w⟩ := w
  refine w_callI (As := [.int 20]) (st := [.ref h15.1.length, .ref l0]) dX4_init_60 mt_X6_init (Or.inl g_236) g_237 rfl rfl rfl e1 rfl (Nat.le_of_ble_eq_true rfl) (Nat.le_refl _) ⟨(by first | omega | decide | exact Nat.le_refl _ | (simp; done) | (simp; omega)), (by first | omega | decide | exact Nat.le_refl _ | (simp; done) | (simp; omega))⟩ w ?_
  rintro v h19 ⟨rfl, w⟩
  obtain ⟨e1, w⟩ := w
  refine w_putp dX4_init_63 lk_RX4_33 e1 rfl (Or.inr ⟨rfl, rfl, lz_RX4_33⟩) ?_
  have w := w _ rfl
  refine w_aload_n dX4_init_66 rfl ?_
  obtain ⟨e2, w⟩ := w
  refine w_new (N := 1) dX4_init_67 (by rfl : vwCl[6]? = some (RX6, TX6, 1)) g_234 g_235 g_139 e2 (by first | omega | decide | exact Nat.le_refl _ | (simp; done) | (simp; omega)) (by first | omega | decide | exact Nat.le_refl _ | (simp; done) | (simp; omega)) ?_
  have w := w _ rfl
  refine w_dup dX4_init_70 rfl ?_
  refine w_bipush (v := 20) dX4_init_71 rfl ?_
  obtain ⟨e1, w⟩ := w
  refine w_callI (As := [.int 20]) (st := [.ref h19.1.length, .ref l0]) dX4_init_73 mt_X6_init (Or.inl g_236) g_237 rfl rfl rfl e1 rfl (Nat.le_of_ble_eq_true rfl) (Nat.le_refl _) ⟨(by first | omega | decide | exact Nat.le_refl _ | (simp; done) | (simp; omega)), (by first | omega | decide | exact Nat.le_refl _ | (simp; done) | (simp; omega))⟩ w ?_
  rintro v h23 ⟨rfl, w⟩
  obtain ⟨e1, w⟩ := w
  refine w_putp dX4_init_76 lk_RX4_36 e1 rfl (Or.inr ⟨rfl, rfl, lz_RX4_36⟩) ?_
  have w := w _ rfl
  refine w_aload_n dX4_init_79 rfl ?_
  refine w_bipush (v := 20) dX4_init_80 rfl ?_
  obtain ⟨e2, w⟩ := w
  refine w_newarr (t := 3) (N := 20) dX4_init_82 (by simp) g_268 (by decide) rfl (by decide) e2 (by first | omega | decide | exact Nat.le_refl _ | (simp; done) | (simp; omega)) (by first | omega | decide | exact Nat.le_refl _ | (simp; done) | (simp; omega)) ?_
  have w := w _ rfl
  obtain ⟨e1, w⟩ := w
  refine w_putp dX4_init_84 lk_RX4_39 e1 rfl (Or.inr ⟨rfl, rfl, lz_RX4_39⟩) ?_
  have w := w _ rfl
  refine w_aload_n dX4_init_87 rfl ?_
  obtain ⟨e2, w⟩ := w
  refine w_new (N := 3) dX4_init_88 (by rfl : vwCl[1]? = some (RX1, TX1, 3)) g_249 g_250 g_140 e2 (by first | omega | decide | exact Nat.le_refl _ | (simp; done) | (simp; omega)) (by first | omega | decide | exact Nat.le_refl _ | (simp; done) | (simp; omega)) ?_
  have w := w _ rfl
  refine w_dup dX4_init_91 rfl ?_
  obtain ⟨e1, w⟩ := w
  refine w_callI (As := []) (st := [.ref (pm_nw (sp h23 l0 5 h19.1.length) (4, 20)).1.length, .ref l0]) dX4_init_92 mt_X1_init (Or.inr ⟨_, g_251⟩) g_252 rfl rfl rfl e1 rfl (Nat.le_of_ble_eq_true rfl) (Nat.le_refl _) ⟨(by first | omega | decide | exact Nat.le_refl _ | (simp; done) | (simp; omega)), (by first | omega | decide | exact Nat.le_refl _ | (simp; done) | (simp; omega))⟩ w ?_
  rintro v h29 ⟨rfl, w⟩
  obtain ⟨e1, w⟩ := w
  refine w_putp dX4_init_95 lk_RX4_46 e1 rfl (Or.inr ⟨rfl, rfl, lz_RX4_46⟩) ?_
  have w := w _ rfl
  refine w_aload_n dX4_init_98 rfl ?_
  refine w_iconst (v := 2) dX4_init_99 rfl ?_
  refine w_puti dX4_init_100 lk_RX4_50 e1 rfl (Or.inl rfl) ?_
  have w := w _ rfl
  exact w_return dX4_init_103 rfl ⟨(by first | omega | decide | exact Nat.le_refl _ | (simp; done) | (simp; omega)), (by first | omega | decide | exact Nat.le_refl _ | (simp; done) | (simp; omega))⟩ w
set_option maxRecDepth 20000 in
set_option maxHeartbeats 4000000 in
theorem x_X10_init {G : pm_G} {d : Nat} {post : pm_PT} {h : pm_H} {l0 : Nat} (w :
    (l0 < h.1.length) ∧
    (h.1.length < 1000) ∧
    ∀ h1 : pm_H, h1 = pm_nw h (0, 6) →
    (h1.1[h.1.length]? = some (0, 6)) ∧
    ca G d m_X6_init 1 30 [.ref h.1.length, .int 30] h1 fun h3 =>
    (h3.1[l0]? = some (0, 9)) ∧
    ∀ h4 : pm_H, h4 = sp h3 l0 0 h.1.length →
    (h3.1.length < 1000) ∧
    ∀ h5 : pm_H, h5 = pm_nw h4 (0, 6) →
    (h5.1[h3.1.length]? = some (0, 6)) ∧
    ca G d m_X6_init 1 30 [.ref h3.1.length, .int 30] h5 fun h7 =>
    (h7.1[l0]? = some (0, 9)) ∧
    ∀ h8 : pm_H, h8 = sp h7 l0 1 h3.1.length →
    (h7.1.length < 1000) ∧
    ∀ h9 : pm_H, h9 = pm_nw h8 (0, 6) →
    (h9.1[h7.1.length]? = some (0, 6)) ∧
    ca G d m_X6_init 1 30 [.ref h7.1.length, .int 30] h9 fun h11 =>
    (h11.1[l0]? = some (0, 9)) ∧
    ∀ h12 : pm_H, h12 = sp h11 l0 2 h7.1.length →
    ∀ h13 : pm_H, h13 = si h12 l0 3 0 →
    post none h13) :
    Wp G (m_X10_init, d + 1, 6, 93, post) (0, 0) 0 [.ref l0] [] h := by
  refine w_aload_n dX10_init_0 rfl ?_
  obtain ⟨e1, w⟩ := w
  refine w_objInit dX10_init_1 g_321 g_159 g_160 e1 (Nat.le_of_ble_eq_true rfl) (Nat.succ_le_succ (Nat.zero_le _)) ?_
  refine w_aload_n dX10_init_4 rfl ?_
  obtain ⟨e2, w⟩ := w
  refine w_new (N := 1) dX10_init_5 (by rfl : vwCl[6]? = some (RX6, TX6, 1)) g_322 g_235 g_139 e2 (by first | omega | decide | exact Nat.le_refl _ | (simp; done) | (simp; omega)) (by first | omega | decide | exact Nat.le_refl _ | (simp; done) | (simp; omega)) ?_
  have w := w _ rfl
  refine w_dup dX10_init_8 rfl ?_
  refine w_bipush (v := 30) dX10_init_9 rfl ?_
  obtain ⟨e1, w⟩ := w
  refine w_callI (As := [.int 30]) (st := [.ref h.1.length, .ref l0]) dX10_init_11 mt_X6_init (Or.inl g_323) g_237 rfl rfl rfl e1 rfl (Nat.le_of_ble_eq_true rfl) (Nat.le_refl _) ⟨(by first | omega | decide | exact Nat.le_refl _ | (simp; done) | (simp; omega)), (by first | omega | decide | exact Nat.le_refl _ | (simp; done) | (simp; omega))⟩ w ?_
  rintro v h3 ⟨rfl, w⟩
  obtain ⟨e1, w⟩ := w
  refine w_putp dX10_init_14 lk_RX10_14 e1 rfl (Or.inr ⟨rfl, rfl, lz_RX10_14⟩) ?_
  have w := w _ rfl
  refine w_aload_n dX10_init_17 rfl ?_
  obtain ⟨e2, w⟩ := w
  refine w_new (N := 1) dX10_init_18 (by rfl : vwCl[6]? = some (RX6, TX6, 1)) g_322 g_235 g_139 e2 (by first | omega | decide | exact Nat.le_refl _ | (simp; done) | (simp; omega)) (by first | omega | decide | exact Nat.le_refl _ | (simp; done) | (simp; omega)) ?_
  have w := w _ rfl
  refine w_dup dX10_init_21 rfl ?_
  refine w_bipush (v := 30) dX10_init_22 rfl ?_
  obtain ⟨e1, w⟩ := w
  refine w_callI (As := [.int 30]) (st := [.ref h3.1.length, .ref l0]) dX10_init_24 mt_X6_init (Or.inl g_323) g_237 rfl rfl rfl e1 rfl (Nat.le_of_ble_eq_true rfl) (Nat.le_refl _) ⟨(by first | omega | decide | exact Nat.le_refl _ | (simp; done) | (simp; omega)), (by first | omega | decide | exact Nat.le_refl _ | (simp; done) | (simp; omega))⟩ w ?_
  rintro v h7 ⟨rfl, w⟩
  obtain ⟨e1, w⟩ := w
  refine w_putp dX10_init_27 lk_RX10_20 e1 rfl (Or.inr ⟨rfl, rfl, lz_RX10_20⟩) ?_
  have w := w _ rfl
  refine w_aload_n dX10_init_30 rfl ?_
  obtain ⟨e2, w⟩ := w
  refine w_new (N := 1) dX10_init_31 (by rfl : vwCl[6]? = some (RX6, TX6, 1)) g_322 g_235 g_139 e2 (by first | omega | decide | exact Nat.le_refl _ | (simp; done) | (simp; omega)) (by first | omega | decide | exact Nat.le_refl _ | (simp; done) | (simp; omega)) ?_
  have w := w _ rfl
  refine w_dup dX10_init_34 rfl ?_
  refine w_bipush (v := 30) dX10_init_35 rfl ?_
  obtain ⟨e1, w⟩ := w
  refine w_callI (As := [.int 30]) (st := [.ref h7.1.length, .ref l0]) dX10_init_37 mt_X6_init (Or.inl g_323) g_237 rfl rfl rfl e1 rfl (Nat.le_of_ble_eq_true rfl) (Nat.le_refl _) ⟨(by first | omega | decide | exact Nat.le_refl _ | (simp; done) | (simp; omega)), (by first | omega | decide | exact Nat.le_refl _ | (simp; done) | (simp; omega))⟩ w ?_
  rintro v h11 ⟨rfl, w⟩
  obtain ⟨e1, w⟩ := w
  refine w_putp dX10_init_40 lk_RX10_23 e1 rfl (Or.inr ⟨rfl, rfl, lz_RX10_23⟩) ?_
  have w := w _ rfl
  refine w_aload_n dX10_init_43 rfl ?_
  refine w_iconst (v := 0) dX10_init_44 rfl ?_
  refine w_puti dX10_init_45 lk_RX10_26 e1 rfl (Or.inl rfl) ?_
  have w := w _ rfl
  exact w_return dX10_init_48 rfl ⟨(by first | omega | decide | exact Nat.le_refl _ | (simp; done) | (simp; omega)), (by first | omega | decide | exact Nat.le_refl _ | (simp; done) | (simp; omega))⟩ w
set_option maxRecDepth 20000 in
set_option maxHeartbeats 4000000 in
theorem x_X0_init {G : pm_G} {d : Nat} {post : pm_PT} {h : pm_H} {l0 : Nat} {l1 : Nat} (w :
    (l0 < h.1.length) ∧
    (h.1.length < 1000) ∧
    ∀ h1 : pm_H, h1 = pm_nw h (0, 6) →
    (h1.1[h.1.length]? = some (0, 6)) ∧
    ca G d m_X6_init 1 24 [.ref h.1.length, .int 24] h1 fun h3 =>
    (h3.1[l0]? = some (0, 0)) ∧
    ∀ h4 : pm_H, h4 = sp h3 l0 1 h.1.length →
    (h3.1.length < 1000) ∧
    ∀ h5 : pm_H, h5 = pm_nw h4 (0, 6) →
    (h5.1[h3.1.length]? = some (0, 6)) ∧
    ca G d m_X6_init 1 24 [.ref h3.1.length, .int 24] h5 fun h7 =>
    (h7.1[l0]? = some (0, 0)) ∧
    ∀ h8 : pm_H, h8 = sp h7 l0 2 h3.1.length →
    (h7.1.length < 1000) ∧
    ∀ h9 : pm_H, h9 = pm_nw h8 (0, 6) →
    (h9.1[h7.1.length]? = some (0, 6)) ∧
    ca G d m_X6_init 1 24 [.ref h7.1.length, .int 24] h9 fun h11 =>
    (h11.1[l0]? = some (0, 0)) ∧
    ∀ h12 : pm_H, h12 = sp h11 l0 3 h7.1.length →
    (h11.1.length < 1000) ∧
    ∀ h13 : pm_H, h13 = pm_nw h12 (0, 6) →
    (h13.1[h11.1.length]? = some (0, 6)) ∧
    ca G d m_X6_init 1 24 [.ref h11.1.length, .int 24] h13 fun h15 =>
    (h15.1[l0]? = some (0, 0)) ∧
    ∀ h16 : pm_H, h16 = sp h15 l0 4 h11.1.length →
    (h15.1.length < 1000) ∧
    ∀ h17 : pm_H, h17 = pm_nw h16 (0, 6) →
    (h17.1[h15.1.length]? = some (0, 6)) ∧
    ca G d m_X6_init 1 24 [.ref h15.1.length, .int 24] h17 fun h19 =>
    (h19.1[l0]? = some (0, 0)) ∧
    ∀ h20 : pm_H, h20 = sp h19 l0 5 h15.1.length →
    (h19.1.length < 1000) ∧
    ∀ h21 : pm_H, h21 = pm_nw h20 (0, 6) →
    (h21.1[h19.1.length]? = some (0, 6)) ∧
    ca G d m_X6_init 1 24 [.ref h19.1.length, .int 24] h21 fun h23 =>
    (h23.1[l0]? = some (0, 0)) ∧
    ∀ h24 : pm_H, h24 = sp h23 l0 6 h19.1.length →
    (h23.1.length < 1000) ∧
    ∀ h25 : pm_H, h25 = pm_nw h24 (0, 6) →
    (h25.1[h23.1.length]? = some (0, 6)) ∧
    ca G d m_X6_init 1 24 [.ref h23.1.length, .int 24] h25 fun h27 =>
    (h27.1[l0]? = some (0, 0)) ∧
    ∀ h28 : pm_H, h28 = sp h27 l0 7 h23.1.length →
    (h27.1.length < 1000) ∧
    ∀ h29 : pm_H, h29 = pm_nw h28 (0, 6) →
    (h29.1[h27.1.length]? = some (0, 6)) ∧
    ca G d m_X6_init 1 24 [.ref h27.1.length, .int 24] h29 fun h31 =>
    (h31.1[l0]? = some (0, 0)) ∧
    ∀ h32 : pm_H, h32 = sp h31 l0 8 h27.1.length →
    (h31.1.length < 1000) ∧
    ∀ h33 : pm_H, h33 = pm_nw h32 (0, 6) →
    (h33.1[h31.1.length]? = some (0, 6)) ∧
    ca G d m_X6_init 1 24 [.ref h31.1.length, .int 24] h33 fun h35 =>
    (h35.1[l0]? = some (0, 0)) ∧
    ∀ h36 : pm_H, h36 = sp h35 l0 9 h31.1.length →
    (h35.1.length < 1000) ∧
    ∀ h37 : pm_H, h37 = pm_nw h36 (0, 6) →
    (h37.1[h35.1.length]? = some (0, 6)) ∧
    ca G d m_X6_init 1 72 [.ref h35.1.length, .int 72] h37 fun h39 =>
    (h39.1[l0]? = some (0, 0)) ∧
    ∀ h40 : pm_H, h40 = sp h39 l0 10 h35.1.length →
    (h39.1.length < 1000) ∧
    ∀ h41 : pm_H, h41 = pm_nw h40 (0, 6) →
    (h41.1[h39.1.length]? = some (0, 6)) ∧
    ca G d m_X6_init 1 20 [.ref h39.1.length, .int 20] h41 fun h43 =>
    (h43.1[l0]? = some (0, 0)) ∧
    ∀ h44 : pm_H, h44 = sp h43 l0 11 h39.1.length →
    (h43.1.length < 1000) ∧
    ∀ h45 : pm_H, h45 = pm_nw h44 (0, 6) →
    (h45.1[h43.1.length]? = some (0, 6)) ∧
    ca G d m_X6_init 1 20 [.ref h43.1.length, .int 20] h45 fun h47 =>
    (h47.1[l0]? = some (0, 0)) ∧
    ∀ h48 : pm_H, h48 = sp h47 l0 12 h43.1.length →
    (h47.1.length < 1000) ∧
    ∀ h49 : pm_H, h49 = pm_nw h48 (0, 6) →
    (h49.1[h47.1.length]? = some (0, 6)) ∧
    ca G d m_X6_init 1 20 [.ref h47.1.length, .int 20] h49 fun h51 =>
    (h51.1[l0]? = some (0, 0)) ∧
    ∀ h52 : pm_H, h52 = sp h51 l0 13 h47.1.length →
    (h51.1.length < 1000) ∧
    ∀ h53 : pm_H, h53 = pm_nw h52 (0, 6) →
    (h53.1[h51.1.length]? = some (0, 6)) ∧
    ca G d m_X6_init 1 20 [.ref h51.1.length, .int 20] h53 fun h55 =>
    (h55.1[l0]? = some (0, 0)) ∧
    ∀ h56 : pm_H, h56 = sp h55 l0 14 h51.1.length →
    (h55.1.length < 1000) ∧
    ∀ h57 : pm_H, h57 = pm_nw h56 (0, 6) →
    (h57.1[h55.1.length]? = some (0, 6)) ∧
    ca G d m_X6_init 1 20 [.ref h55.1.length, .int 20] h57 fun h59 =>
    (h59.1[l0]? = some (0, 0)) ∧
    ∀ h60 : pm_H, h60 = sp h59 l0 15 h55.1.length →
    ∀ h61 : pm_H, h61 = sp h60 l0 0 l1 →
    post none h61) :
    Wp G (m_X0_init, d + 1, 30, 403, post) (0, 0) 0 [.ref l0, .ref l1] [] h := by
  refine w_aload_n dX0_init_0 rfl ?_
  obtain ⟨e1, w⟩ := w
  refine w_objInit dX0_init_1 g_397 g_159 g_160 e1 (Nat.le_of_ble_eq_true rfl) (Nat.succ_le_succ (Nat.zero_le _)) ?_
  refine w_aload_n dX0_init_4 rfl ?_
  obtain ⟨e2, w⟩ := w
  refine w_new (N := 1) dX0_init_5 (by rfl : vwCl[6]? = some (RX6, TX6, 1)) g_398 g_235 g_139 e2 (by first | omega | decide | exact Nat.le_refl _ | (simp; done) | (simp; omega)) (by first | omega | decide | exact Nat.le_refl _ | (simp; done) | (simp; omega)) ?_
  have w := w _ rfl
  refine w_dup dX0_init_8 rfl ?_
  refine w_bipush (v := 24) dX0_init_9 rfl ?_
  obtain ⟨e1, w⟩ := w
  refine w_callI (As := [.int 24]) (st := [.ref h.1.length, .ref l0]) dX0_init_11 mt_X6_init (Or.inl g_399) g_237 rfl rfl rfl e1 rfl (Nat.le_of_ble_eq_true rfl) (Nat.le_refl _) ⟨(by first | omega | decide | exact Nat.le_refl _ | (simp; done) | (simp; omega)), (by first | omega | decide | exact Nat.le_refl _ | (simp; done) | (simp; omega))⟩ w ?_
  rintro v h3 ⟨rfl, w⟩
  obtain ⟨e1, w⟩ := w
  refine w_putp dX0_init_14 lk_RX0_16 e1 rfl (Or.inr ⟨rfl, rfl, lz_RX0_16⟩) ?_
  have w := w _ rfl
  refine w_aload_n dX0_init_17 rfl ?_
  obtain ⟨e2, w⟩ := w
  refine w_new (N := 1) dX0_init_18 (by rfl : vwCl[6]? = some (RX6, TX6, 1)) g_398 g_235 g_139 e2 (by first | omega | decide | exact Nat.le_refl _ | (simp; done) | (simp; omega)) (by first | omega | decide | exact Nat.le_refl _ | (simp; done) | (simp; omega)) ?_
  have w := w _ rfl
  refine w_dup dX0_init_21 rfl ?_
  refine w_bipush (v := 24) dX0_init_22 rfl ?_
  obtain ⟨e1, w⟩ := w
  refine w_callI (As := [.int 24]) (st := [.ref h3.1.length, .ref l0]) dX0_init_24 mt_X6_init (Or.inl g_399) g_237 rfl rfl rfl e1 rfl (Nat.le_of_ble_eq_true rfl) (Nat.le_refl _) ⟨(by first | omega | decide | exact Nat.le_refl _ | (simp; done) | (simp; omega)), (by first | omega | decide | exact Nat.le_refl _ | (simp; done) | (simp; omega))⟩ w ?_
  rintro v h7 ⟨rfl, w⟩
  obtain ⟨e1, w⟩ := w
  refine w_putp dX0_init_27 lk_RX0_20 e1 rfl (Or.inr ⟨rfl, rfl, lz_RX0_20⟩) ?_
  have w := w _ rfl
  refine w_aload_n dX0_init_30 rfl ?_
  obtain ⟨e2, w⟩ := w
  refine w_new (N := 1) dX0_init_31 (by rfl : vwCl[6]? = some (RX6, TX6, 1)) g_398 g_235 g_139 e2 (by first | omega | decide | exact Nat.le_refl _ | (simp; done) | (simp; omega)) (by first | omega | decide | exact Nat.le_refl _ | (simp; done) | (simp; omega)) ?_
  have w := w _ rfl
  refine w_dup dX0_init_34 rfl ?_
  refine w_bipush (v := 24) dX0_init_35 rfl ?_
  obtain ⟨e1, w⟩ := w
  refine w_callI (As := [.int 24]) (st := [.ref h7.1.length, .ref l0]) dX0_init_37 mt_X6_init (Or.inl g_399) g_237 rfl rfl rfl e1 rfl (Nat.le_of_ble_eq_true rfl) (Nat.le_refl _) ⟨(by first | omega | decide | exact Nat.le_refl _ | (simp; done) | (simp; omega)), (by first | omega | decide | exact Nat.le_refl _ | (simp; done) | (simp; omega))⟩ w ?_
  rintro v h11 ⟨rfl, w⟩
  obtain ⟨e1, w⟩ := w
  refine w_putp dX0_init_40 lk_RX0_23 e1 rfl (Or.inr ⟨rfl, rfl, lz_RX0_23⟩) ?_
  have w := w _ rfl
  refine w_aload_n dX0_init_43 rfl ?_
  obtain ⟨e2, w⟩ := w
  refine w_new (N := 1) dX0_init_44 (by rfl : vwCl[6]? = some (RX6, TX6, 1)) g_398 g_235 g_139 e2 (by first | omega | decide | exact Nat.le_refl _ | (simp; done) | (simp; omega)) (by first | omega | decide | exact Nat.le_refl _ | (simp; done) | (simp; omega)) ?_
  have w := w _ rfl
  refine w_dup dX0_init_47 rfl ?_
  refine w_bipush (v := 24) dX0_init_48 rfl ?_
  obtain ⟨e1, w⟩ := w
  refine w_callI (As := [.int 24]) (st := [.ref h11.1.length, .ref l0]) dX0_init_50 mt_X6_init (Or.inl g_399) g_237 rfl rfl rfl e1 rfl (Nat.le_of_ble_eq_true rfl) (Nat.le_refl _) ⟨(by first | omega | decide | exact Nat.le_refl _ | (simp; done) | (simp; omega)), (by first | omega | decide | exact Nat.le_refl _ | (simp; done) | (simp; omega))⟩ w ?_
  rintro v h15 ⟨rfl, w⟩
  obtain ⟨e1, w⟩ := w
  refine w_putp dX0_init_53 lk_RX0_26 e1 rfl (Or.inr ⟨rfl, rfl, lz_RX0_26⟩) ?_
  have w := w _ rfl
  refine w_aload_n dX0_init_56 rfl ?_
  obtain ⟨e2, w⟩ := w
  refine w_new (N := 1) dX0_init_57 (by rfl : vwCl[6]? = some (RX6, TX6, 1)) g_398 g_235 g_139 e2 (by first | omega | decide | exact Nat.le_refl _ | (simp; done) | (simp; omega)) (by first | omega | decide | exact Nat.le_refl _ | (simp; done) | (simp; omega)) ?_
  have w := w _ rfl
  refine w_dup dX0_init_60 rfl ?_
  refine w_bipush (v := 24) dX0_init_61 rfl ?_
  obtain ⟨e1, w⟩ := w
  refine w_callI (As := [.int 24]) (st := [.ref h15.1.length, .ref l0]) dX0_init_63 mt_X6_init (Or.inl g_399) g_237 rfl rfl rfl e1 rfl (Nat.le_of_ble_eq_true rfl) (Nat.le_refl _) ⟨(by first | omega | decide | exact Nat.le_refl _ | (simp; done) | (simp; omega)), (by first | omega | decide | exact Nat.le_refl _ | (simp; done) | (simp; omega))⟩ w ?_
  rintro v h19 ⟨rfl, w⟩
  obtain ⟨e1, w⟩ := w
  refine w_putp dX0_init_66 lk_RX0_29 e1 rfl (Or.inr ⟨rfl, rfl, lz_RX0_29⟩) ?_
  have w := w _ rfl
  refine w_aload_n dX0_init_69 rfl ?_
  obtain ⟨e2, w⟩ := w
  refine w_new (N := 1) dX0_init_70 (by rfl : vwCl[6]? = some (RX6, TX6, 1)) g_398 g_235 g_139 e2 (by first | omega | decide | exact Nat.le_refl _ | (simp; done) | (simp; omega)) (by first | omega | decide | exact Nat.le_refl _ | (simp; done) | (simp; omega)) ?_
  have w := w _ rfl
  refine w_dup dX0_init_73 rfl ?_
  refine w_bipush (v := 24) dX0_init_74 rfl ?_
  obtain ⟨e1, w⟩ := w
  refine w_callI (As := [.int 24]) (st := [.ref h19.1.length, .ref l0]) dX0_init_76 mt_X6_init (Or.inl g_399) g_237 rfl rfl rfl e1 rfl (Nat.le_of_ble_eq_true rfl) (Nat.le_refl _) ⟨(by first | omega | decide | exact Nat.le_refl _ | (simp; done) | (simp; omega)), (by first | omega | decide | exact Nat.le_refl _ | (simp; done) | (simp; omega))⟩ w ?_
  rintro v h23 ⟨rfl, w⟩
  obtain ⟨e1, w⟩ := w
  refine w_putp dX0_init_79 lk_RX0_32 e1 rfl (Or.inr ⟨rfl, rfl, lz_RX0_32⟩) ?_
  have w := w _ rfl
  refine w_aload_n dX0_init_82 rfl ?_
  obtain ⟨e2, w⟩ := w
  refine w_new (N := 1) dX0_init_83 (by rfl : vwCl[6]? = some (RX6, TX6, 1)) g_398 g_235 g_139 e2 (by first | omega | decide | exact Nat.le_refl _ | (simp; done) | (simp; omega)) (by first | omega | decide | exact Nat.le_refl _ | (simp; done) | (simp; omega)) ?_
  have w := w _ rfl
  refine w_dup dX0_init_86 rfl ?_
  refine w_bipush (v := 24) dX0_init_87 rfl ?_
  obtain ⟨e1, w⟩ := w
  refine w_callI (As := [.int 24]) (st := [.ref h23.1.length, .ref l0]) dX0_init_89 mt_X6_init (Or.inl g_399) g_237 rfl rfl rfl e1 rfl (Nat.le_of_ble_eq_true rfl) (Nat.le_refl _) ⟨(by first | omega | decide | exact Nat.le_refl _ | (simp; done) | (simp; omega)), (by first | omega | decide | exact Nat.le_refl _ | (simp; done) | (simp; omega))⟩ w ?_
  rintro v h27 ⟨rfl, w⟩
  obtain ⟨e1, w⟩ := w
  refine w_putp dX0_init_92 lk_RX0_35 e1 rfl (Or.inr ⟨rfl, rfl, lz_RX0_35⟩) ?_
  have w := w _ rfl
  refine w_aload_n dX0_init_95 rfl ?_
  obtain ⟨e2, w⟩ := w
  refine w_new (N := 1) dX0_init_96 (by rfl : vwCl[6]? = some (RX6, TX6, 1)) g_398 g_235 g_139 e2 (by first | omega | decide | exact Nat.le_refl _ | (simp; done) | (simp; omega)) (by first | omega | decide | exact Nat.le_refl _ | (simp; done) | (simp; omega)) ?_
  have w := w _ rfl
  refine w_dup dX0_init_99 rfl ?_
  refine w_bipush (v := 24) dX0_init_100 rfl ?_
  obtain ⟨e1, w⟩ := w
  refine w_callI (As := [.int 24]) (st := [.ref h27.1.length, .ref l0]) dX0_init_102 mt_X6_init (Or.inl g_399) g_237 rfl rfl rfl e1 rfl (Nat.le_of_ble_eq_true rfl) (Nat.le_refl _) ⟨(by first | omega | decide | exact Nat.le_refl _ | (simp; done) | (simp; omega)), (by first | omega | decide | exact Nat.le_refl _ | (simp; done) | (simp; omega))⟩ w ?_
  rintro v h31 ⟨rfl, w⟩
  obtain ⟨e1, w⟩ := w
  refine w_putp dX0_init_105 lk_RX0_38 e1 rfl (Or.inr ⟨rfl, rfl, lz_RX0_38⟩) ?_
  have w := w _ rfl
  refine w_aload_n dX0_init_108 rfl ?_
  obtain ⟨e2, w⟩ := w
  refine w_new (N := 1) dX0_init_109 (by rfl : vwCl[6]? = some (RX6, TX6, 1)) g_398 g_235 g_139 e2 (by first | omega | decide | exact Nat.le_refl _ | (simp; done) | (simp; omega)) (by first | omega | decide | exact Nat.le_refl _ | (simp; done) | (simp; omega)) ?_
  have w := w _ rfl
  refine w_dup dX0_init_112 rfl ?_
  refine w_bipush (v := 24) dX0_init_113 rfl ?_
  obtain ⟨e1, w⟩ := w
  refine w_callI (As := [.int 24]) (st := [.ref h31.1.length, .ref l0]) dX0_init_115 mt_X6_init (Or.inl g_399) g_237 rfl rfl rfl e1 rfl (Nat.le_of_ble_eq_true rfl) (Nat.le_refl _) ⟨(by first | omega | decide | exact Nat.le_refl _ | (simp; done) | (simp; omega)), (by first | omega | decide | exact Nat.le_refl _ | (simp; done) | (simp; omega))⟩ w ?_
  rintro v h35 ⟨rfl, w⟩
  obtain ⟨e1, w⟩ := w
  refine w_putp dX0_init_118 lk_RX0_41 e1 rfl (Or.inr ⟨rfl, rfl, lz_RX0_41⟩) ?_
  have w := w _ rfl
  refine w_aload_n dX0_init_121 rfl ?_
  obtain ⟨e2, w⟩ := w
  refine w_new (N := 1) dX0_init_122 (by rfl : vwCl[6]? = some (RX6, TX6, 1)) g_398 g_235 g_139 e2 (by first | omega | decide | exact Nat.le_refl _ | (simp; done) | (simp; omega)) (by first | omega | decide | exact Nat.le_refl _ | (simp; done) | (simp; omega)) ?_
  have w := w _ rfl
  refine w_dup dX0_init_125 rfl ?_
  refine w_bipush (v := 72) dX0_init_126 rfl ?_
  obtain ⟨e1, w⟩ := w
  refine w_callI (As := [.int 72]) (st := [.ref h35.1.length, .ref l0]) dX0_init_128 mt_X6_init (Or.inl g_399) g_237 rfl rfl rfl e1 rfl (Nat.le_of_ble_eq_true rfl) (Nat.le_refl _) ⟨(by first | omega | decide | exact Nat.le_refl _ | (simp; done) | (simp; omega)), (by first | omega | decide | exact Nat.le_refl _ | (simp; done) | (simp; omega))⟩ w ?_
  rintro v h39 ⟨rfl, w⟩
  obtain ⟨e1, w⟩ := w
  refine w_putp dX0_init_131 lk_RX0_44 e1 rfl (Or.inr ⟨rfl, rfl, lz_RX0_44⟩) ?_
  have w := w _ rfl
  refine w_aload_n dX0_init_134 rfl ?_
  obtain ⟨e2, w⟩ := w
  refine w_new (N := 1) dX0_init_135 (by rfl : vwCl[6]? = some (RX6, TX6, 1)) g_398 g_235 g_139 e2 (by first | omega | decide | exact Nat.le_refl _ | (simp; done) | (simp; omega)) (by first | omega | decide | exact Nat.le_refl _ | (simp; done) | (simp; omega)) ?_
  have w := w _ rfl
  refine w_dup dX0_init_138 rfl ?_
  refine w_bipush (v := 20) dX0_init_139 rfl ?_
  obtain ⟨e1, w⟩ := w
  refine w_callI (As := [.int 20]) (st := [.ref h39.1.length, .ref l0]) dX0_init_141 mt_X6_init (Or.inl g_399) g_237 rfl rfl rfl e1 rfl (Nat.le_of_ble_eq_true rfl) (Nat.le_refl _) ⟨(by first | omega | decide | exact Nat.le_refl _ | (simp; done) | (simp; omega)), (by first | omega | decide | exact Nat.le_refl _ | (simp; done) | (simp; omega))⟩ w ?_
  rintro v h43 ⟨rfl, w⟩
  obtain ⟨e1, w⟩ := w
  refine w_putp dX0_init_144 lk_RX0_47 e1 rfl (Or.inr ⟨rfl, rfl, lz_RX0_47⟩) ?_
  have w := w _ rfl
  refine w_aload_n dX0_init_147 rfl ?_
  obtain ⟨e2, w⟩ := w
  refine w_new (N := 1) dX0_init_148 (by rfl : vwCl[6]? = some (RX6, TX6, 1)) g_398 g_235 g_139 e2 (by first | omega | decide | exact Nat.le_refl _ | (simp; done) | (simp; omega)) (by first | omega | decide | exact Nat.le_refl _ | (simp; done) | (simp; omega)) ?_
  have w := w _ rfl
  refine w_dup dX0_init_151 rfl ?_
  refine w_bipush (v := 20) dX0_init_152 rfl ?_
  obtain ⟨e1, w⟩ := w
  refine w_callI (As := [.int 20]) (st := [.ref h43.1.length, .ref l0]) dX0_init_154 mt_X6_init (Or.inl g_399) g_237 rfl rfl rfl e1 rfl (Nat.le_of_ble_eq_true rfl) (Nat.le_refl _) ⟨(by first | omega | decide | exact Nat.le_refl _ | (simp; done) | (simp; omega)), (by first | omega | decide | exact Nat.le_refl _ | (simp; done) | (simp; omega))⟩ w ?_
  rintro v h47 ⟨rfl, w⟩
  obtain ⟨e1, w⟩ := w
  refine w_putp dX0_init_157 lk_RX0_50 e1 rfl (Or.inr ⟨rfl, rfl, lz_RX0_50⟩) ?_
  have w := w _ rfl
  refine w_aload_n dX0_init_160 rfl ?_
  obtain ⟨e2, w⟩ := w
  refine w_new (N := 1) dX0_init_161 (by rfl : vwCl[6]? = some (RX6, TX6, 1)) g_398 g_235 g_139 e2 (by first | omega | decide | exact Nat.le_refl _ | (simp; done) | (simp; omega)) (by first | omega | decide | exact Nat.le_refl _ | (simp; done) | (simp; omega)) ?_
  have w := w _ rfl
  refine w_dup dX0_init_164 rfl ?_
  refine w_bipush (v := 20) dX0_init_165 rfl ?_
  obtain ⟨e1, w⟩ := w
  refine w_callI (As := [.int 20]) (st := [.ref h47.1.length, .ref l0]) dX0_init_167 mt_X6_init (Or.inl g_399) g_237 rfl rfl rfl e1 rfl (Nat.le_of_ble_eq_true rfl) (Nat.le_refl _) ⟨(by first | omega | decide | exact Nat.le_refl _ | (simp; done) | (simp; omega)), (by first | omega | decide | exact Nat.le_refl _ | (simp; done) | (simp; omega))⟩ w ?_
  rintro v h51 ⟨rfl, w⟩
  obtain ⟨e1, w⟩ := w
  refine w_putp dX0_init_170 lk_RX0_53 e1 rfl (Or.inr ⟨rfl, rfl, lz_RX0_53⟩) ?_
  have w := w _ rfl
  refine w_aload_n dX0_init_173 rfl ?_
  obtain ⟨e2, w⟩ := w
  refine w_new (N := 1) dX0_init_174 (by rfl : vwCl[6]? = some (RX6, TX6, 1)) g_398 g_235 g_139 e2 (by first | omega | decide | exact Nat.le_refl _ | (simp; done) | (simp; omega)) (by first | omega | decide | exact Nat.le_refl _ | (simp; done) | (simp; omega)) ?_
  have w := w _ rfl
  refine w_dup dX0_init_177 rfl ?_
  refine w_bipush (v := 20) dX0_init_178 rfl ?_
  obtain ⟨e1, w⟩ := w
  refine w_callI (As := [.int 20]) (st := [.ref h51.1.length, .ref l0]) dX0_init_180 mt_X6_init (Or.inl g_399) g_237 rfl rfl rfl e1 rfl (Nat.le_of_ble_eq_true rfl) (Nat.le_refl _) ⟨(by first | omega | decide | exact Nat.le_refl _ | (simp; done) | (simp; omega)), (by first | omega | decide | exact Nat.le_refl _ | (simp; done) | (simp; omega))⟩ w ?_
  rintro v h55 ⟨rfl, w⟩
  obtain ⟨e1, w⟩ := w
  refine w_putp dX0_init_183 lk_RX0_56 e1 rfl (Or.inr ⟨rfl, rfl, lz_RX0_56⟩) ?_
  have w := w _ rfl
  refine w_aload_n dX0_init_186 rfl ?_
  obtain ⟨e2, w⟩ := w
  refine w_new (N := 1) dX0_init_187 (by rfl : vwCl[6]? = some (RX6, TX6, 1)) g_398 g_235 g_139 e2 (by first | omega | decide | exact Nat.le_refl _ | (simp; done) | (simp; omega)) (by first | omega | decide | exact Nat.le_refl _ | (simp; done) | (simp; omega)) ?_
  have w := w _ rfl
  refine w_dup dX0_init_190 rfl ?_
  refine w_bipush (v := 20) dX0_init_191 rfl ?_
  obtain ⟨e1, w⟩ := w
  refine w_callI (As := [.int 20]) (st := [.ref h55.1.length, .ref l0]) dX0_init_193 mt_X6_init (Or.inl g_399) g_237 rfl rfl rfl e1 rfl (Nat.le_of_ble_eq_true rfl) (Nat.le_refl _) ⟨(by first | omega | decide | exact Nat.le_refl _ | (simp; done) | (simp; omega)), (by first | omega | decide | exact Nat.le_refl _ | (simp; done) | (simp; omega))⟩ w ?_
  rintro v h59 ⟨rfl, w⟩
  obtain ⟨e1, w⟩ := w
  refine w_putp dX0_init_196 lk_RX0_59 e1 rfl (Or.inr ⟨rfl, rfl, lz_RX0_59⟩) ?_
  have w := w _ rfl
  refine w_aload_n dX0_init_199 rfl ?_
  refine w_aload_n dX0_init_200 rfl ?_
  refine w_putp dX0_init_201 lk_RX0_62 e1 rfl (Or.inr ⟨rfl, rfl, lz_RX0_62⟩) ?_
  have w := w _ rfl
  exact w_return dX0_init_204 rfl ⟨(by first | omega | decide | exact Nat.le_refl _ | (simp; done) | (simp; omega)), (by first | omega | decide | exact Nat.le_refl _ | (simp; done) | (simp; omega))⟩ w
set_option maxRecDepth 20000 in
set_option maxHeartbeats 4000000 in
theorem x_X8_init {G : pm_G} {d : Nat} {post : pm_PT} {h : pm_H} {l0 : Nat} {l1 : Nat} (w :
    (l0 < h.1.length) ∧
    (h.1.length < 1000) ∧
    ∀ h1 : pm_H, h1 = pm_nw h (0, 6) →
    (h1.1[h.1.length]? = some (0, 6)) ∧
    ca G d m_X6_init 1 20 [.ref h.1.length, .int 20] h1 fun h3 =>
    (h3.1[l0]? = some (0, 8)) ∧
    ∀ h4 : pm_H, h4 = sp h3 l0 2 h.1.length →
    ∀ h5 : pm_H, h5 = si h4 l0 3 0 →
    (h3.1.length < 1000) ∧
    ∀ h6 : pm_H, h6 = pm_nw h5 (0, 6) →
    (h6.1[h3.1.length]? = some (0, 6)) ∧
    ca G d m_X6_init 1 20 [.ref h3.1.length, .int 20] h6 fun h8 =>
    (h8.1[l0]? = some (0, 8)) ∧
    ∀ h9 : pm_H, h9 = sp h8 l0 4 h3.1.length →
    (h8.1.length < 1000) ∧
    ∀ h10 : pm_H, h10 = pm_nw h9 (0, 6) →
    (h10.1[h8.1.length]? = some (0, 6)) ∧
    ca G d m_X6_init 1 30 [.ref h8.1.length, .int 30] h10 fun h12 =>
    (h12.1[l0]? = some (0, 8)) ∧
    ∀ h13 : pm_H, h13 = sp h12 l0 5 h8.1.length →
    ∀ h14 : pm_H, h14 = sl h13 l0 6 (0 : Int64) →
    ∀ h15 : pm_H, h15 = sp h14 l0 0 l1 →
    (h12.1.length < 1000) ∧
    ∀ h16 : pm_H, h16 = pm_nw h15 (0, 0) →
    (h16.1[h12.1.length]? = some (0, 0)) ∧
    ca G d m_X0_init 30 403 [.ref h12.1.length, .ref l1] h16 fun h18 =>
    (h18.1[l0]? = some (0, 8)) ∧
    ∀ h19 : pm_H, h19 = sp h18 l0 1 h12.1.length →
    post none h19) :
    Wp G (m_X8_init, d + 1, 37, 492, post) (0, 0) 0 [.ref l0, .ref l1] [] h := by
  refine w_aload_n dX8_init_0 rfl ?_
  obtain ⟨e1, w⟩ := w
  refine w_objInit dX8_init_1 g_463 g_159 g_160 e1 (Nat.le_of_ble_eq_true rfl) (Nat.succ_le_succ (Nat.zero_le _)) ?_
  refine w_aload_n dX8_init_4 rfl ?_
  obtain ⟨e2, w⟩ := w
  refine w_new (N := 1) dX8_init_5 (by rfl : vwCl[6]? = some (RX6, TX6, 1)) g_464 g_235 g_139 e2 (by first | omega | decide | exact Nat.le_refl _ | (simp; done) | (simp; omega)) (by first | omega | decide | exact Nat.le_refl _ | (simp; done) | (simp; omega)) ?_
  have w := w _ rfl
  refine w_dup dX8_init_8 rfl ?_
  refine w_bipush (v := 20) dX8_init_9 rfl ?_
  obtain ⟨e1, w⟩ := w
  refine w_callI (As := [.int 20]) (st := [.ref h.1.length, .ref l0]) dX8_init_11 mt_X6_init (Or.inl g_465) g_237 rfl rfl rfl e1 rfl (Nat.le_of_ble_eq_true rfl) (Nat.le_refl _) ⟨(by first | omega | decide | exact Nat.le_refl _ | (simp; done) | (simp; omega)), (by first | omega | decide | exact Nat.le_refl _ | (simp; done) | (simp; omega))⟩ w ?_
  rintro v h3 ⟨rfl, w⟩
  obtain ⟨e1, w⟩ := w
  refine w_putp dX8_init_14 lk_RX8_14 e1 rfl (Or.inr ⟨rfl, rfl, lz_RX8_14⟩) ?_
  have w := w _ rfl
  refine w_aload_n dX8_init_17 rfl ?_
  refine w_iconst (v := 0) dX8_init_18 rfl ?_
  refine w_puti dX8_init_19 lk_RX8_20 e1 rfl (Or.inl rfl) ?_
  have w := w _ rfl
  refine w_aload_n dX8_init_22 rfl ?_
  obtain ⟨e2, w⟩ := w
  refine w_new (N := 1) dX8_init_23 (by rfl : vwCl[6]? = some (RX6, TX6, 1)) g_464 g_235 g_139 e2 (by first | omega | decide | exact Nat.le_refl _ | (simp; done) | (simp; omega)) (by first | omega | decide | exact Nat.le_refl _ | (simp; done) | (simp; omega)) ?_
  have w := w _ rfl
  refine w_dup dX8_init_26 rfl ?_
  refine w_bipush (v := 20) dX8_init_27 rfl ?_
  obtain ⟨e1, w⟩ := w
  refine w_callI (As := [.int 20]) (st := [.ref h3.1.length, .ref l0]) dX8_init_29 mt_X6_init (Or.inl g_465) g_237 rfl rfl rfl e1 rfl (Nat.le_of_ble_eq_true rfl) (Nat.le_refl _) ⟨(by first | omega | decide | exact Nat.le_refl _ | (simp; done) | (simp; omega)), (by first | omega | decide | exact Nat.le_refl _ | (simp; done) | (simp; omega))⟩ w ?_
  rintro v h8 ⟨rfl, w⟩
  obtain ⟨e1, w⟩ := w
  refine w_putp dX8_init_32 lk_RX8_24 e1 rfl (Or.inr ⟨rfl, rfl, lz_RX8_24⟩) ?_
  have w := w _ rfl
  refine w_aload_n dX8_init_35 rfl ?_
  obtain ⟨e2, w⟩ := w
  refine w_new (N := 1) dX8_init_36 (by rfl : vwCl[6]? = some (RX6, TX6, 1)) g_464 g_235 g_139 e2 (by first | omega | decide | exact Nat.le_refl _ | (simp; done) | (simp; omega)) (by first | omega | decide | exact Nat.le_refl _ | (simp; done) | (simp; omega)) ?_
  have w := w _ rfl
  refine w_dup dX8_init_39 rfl ?_
  refine w_bipush (v := 30) dX8_init_40 rfl ?_
  obtain ⟨e1, w⟩ := w
  refine w_callI (As := [.int 30]) (st := [.ref h8.1.length, .ref l0]) dX8_init_42 mt_X6_init (Or.inl g_465) g_237 rfl rfl rfl e1 rfl (Nat.le_of_ble_eq_true rfl) (Nat.le_refl _) ⟨(by first | omega | decide | exact Nat.le_refl _ | (simp; done) | (simp; omega)), (by first | omega | decide | exact Nat.le_refl _ | (simp; done) | (simp; omega))⟩ w ?_
  rintro v h12 ⟨rfl, w⟩
  obtain ⟨e1, w⟩ := w
  refine w_putp dX8_init_45 lk_RX8_27 e1 rfl (Or.inr ⟨rfl, rfl, lz_RX8_27⟩) ?_
  have w := w _ rfl
  refine w_aload_n dX8_init_48 rfl ?_
  refine w_lconst (v := 0) dX8_init_49 rfl ?_
  refine w_putl dX8_init_50 lk_RX8_30 e1 rfl (Or.inl rfl) ?_
  have w := w _ rfl
  refine w_aload_n dX8_init_53 rfl ?_
  refine w_aload_n dX8_init_54 rfl ?_
  refine w_putp dX8_init_55 lk_RX8_34 e1 rfl (Or.inr ⟨rfl, rfl, lz_RX8_34⟩) ?_
  have w := w _ rfl
  refine w_aload_n dX8_init_58 rfl ?_
  obtain ⟨e2, w⟩ := w
  refine w_new (N := 16) dX8_init_59 (by rfl : vwCl[0]? = some (RX0, TX0, 16)) g_466 g_393 g_144 e2 (by first | omega | decide | exact Nat.le_refl _ | (simp; done) | (simp; omega)) (by first | omega | decide | exact Nat.le_refl _ | (simp; done) | (simp; omega)) ?_
  have w := w _ rfl
  refine w_dup dX8_init_62 rfl ?_
  refine w_aload_n dX8_init_63 rfl ?_
  obtain ⟨e1, w⟩ := w
  refine w_callI (As := [.ref l1]) (st := [.ref h12.1.length, .ref l0]) dX8_init_64 mt_X0_init (Or.inl g_467) g_395 rfl rfl rfl e1 rfl (Nat.le_of_ble_eq_true rfl) (Nat.le_refl _) ⟨(by first | omega | decide | exact Nat.le_refl _ | (simp; done) | (simp; omega)), (by first | omega | decide | exact Nat.le_refl _ | (simp; done) | (simp; omega))⟩ w ?_
  rintro v h18 ⟨rfl, w⟩
  obtain ⟨e1, w⟩ := w
  refine w_putp dX8_init_67 lk_RX8_43 e1 rfl (Or.inr ⟨rfl, rfl, lz_RX8_43⟩) ?_
  have w := w _ rfl
  exact w_return dX8_init_70 rfl ⟨(by first | omega | decide | exact Nat.le_refl _ | (simp; done) | (simp; omega)), (by first | omega | decide | exact Nat.le_refl _ | (simp; done) | (simp; omega))⟩ w
set_option maxRecDepth 20000 in
set_option maxHeartbeats 4000000 in
theorem x_X12_init {G : pm_G} {d : Nat} {post : pm_PT} {h : pm_H} {l0 : Nat} (w :
    (l0 < h.1.length) ∧
    (h.1.length < 1000) ∧
    ∀ h1 : pm_H, h1 = pm_nw h (1, 1000) →
    (h1.1[l0]? = some (0, 11)) ∧
    ∀ h2 : pm_H, h2 = sp h1 l0 1 h.1.length →
    (h1.1.length < 1000) ∧
    ∀ h3 : pm_H, h3 = pm_nw h2 (1, 1002) →
    (h3.1[l0]? = some (0, 11)) ∧
    ∀ h4 : pm_H, h4 = sp h3 l0 4 h1.1.length →
    (h3.1.length < 1000) ∧
    ∀ h5 : pm_H, h5 = pm_nw h4 (1, 1002) →
    (h5.1[l0]? = some (0, 11)) ∧
    ∀ h6 : pm_H, h6 = sp h5 l0 5 h3.1.length →
    (h5.1.length < 1000) ∧
    ∀ h7 : pm_H, h7 = pm_nw h6 (2, 1002) →
    (h7.1[l0]? = some (0, 11)) ∧
    ∀ h8 : pm_H, h8 = sp h7 l0 6 h5.1.length →
    (h7.1.length < 1000) ∧
    ∀ h9 : pm_H, h9 = pm_nw h8 (2, 22) →
    ∃ n10 : Nat, h9.1[h7.1.length]? = some (2, n10) ∧
    (vp_in 0 n10) ∧
    ∀ h11 : pm_H, h11 = sl h9 h7.1.length (0 : Int32).toNatClampNeg (412122 : Int64) →
    (vp_in 1 n10) ∧
    ∀ h12 : pm_H, h12 = sl h11 h7.1.length (1 : Int32).toNatClampNeg (36021578 : Int64) →
    (vp_in 2 n10) ∧
    ∀ h13 : pm_H, h13 = sl h12 h7.1.length (2 : Int32).toNatClampNeg (483455 : Int64) →
    (vp_in 3 n10) ∧
    ∀ h14 : pm_H, h14 = sl h13 h7.1.length (3 : Int32).toNatClampNeg (790116 : Int64) →
    (vp_in 4 n10) ∧
    ∀ h15 : pm_H, h15 = sl h14 h7.1.length (4 : Int32).toNatClampNeg (347 : Int64) →
    (vp_in 5 n10) ∧
    ∀ h16 : pm_H, h16 = sl h15 h7.1.length (5 : Int32).toNatClampNeg (36016323 : Int64) →
    (vp_in 6 n10) ∧
    ∀ h17 : pm_H, h17 = sl h16 h7.1.length (6 : Int32).toNatClampNeg (14052286 : Int64) →
    (vp_in 7 n10) ∧
    ∀ h18 : pm_H, h18 = sl h17 h7.1.length (7 : Int32).toNatClampNeg (22701 : Int64) →
    (vp_in 8 n10) ∧
    ∀ h19 : pm_H, h19 = sl h18 h7.1.length (8 : Int32).toNatClampNeg (1014841 : Int64) →
    (vp_in 9 n10) ∧
    ∀ h20 : pm_H, h20 = sl h19 h7.1.length (9 : Int32).toNatClampNeg (665782 : Int64) →
    (vp_in 10 n10) ∧
    ∀ h21 : pm_H, h21 = sl h20 h7.1.length (10 : Int32).toNatClampNeg (1332798983 : Int64) →
    (vp_in 11 n10) ∧
    ∀ h22 : pm_H, h22 = sl h21 h7.1.length (11 : Int32).toNatClampNeg (30596128 : Int64) →
    (vp_in 12 n10) ∧
    ∀ h23 : pm_H, h23 = sl h22 h7.1.length (12 : Int32).toNatClampNeg (1490319949 : Int64) →
    (vp_in 13 n10) ∧
    ∀ h24 : pm_H, h24 = sl h23 h7.1.length (13 : Int32).toNatClampNeg (609950 : Int64) →
    (vp_in 14 n10) ∧
    ∀ h25 : pm_H, h25 = sl h24 h7.1.length (14 : Int32).toNatClampNeg (20687 : Int64) →
    (vp_in 15 n10) ∧
    ∀ h26 : pm_H, h26 = sl h25 h7.1.length (15 : Int32).toNatClampNeg (19741 : Int64) →
    (vp_in 16 n10) ∧
    ∀ h27 : pm_H, h27 = sl h26 h7.1.length (16 : Int32).toNatClampNeg (1891 : Int64) →
    (vp_in 17 n10) ∧
    ∀ h28 : pm_H, h28 = sl h27 h7.1.length (17 : Int32).toNatClampNeg (573 : Int64) →
    (vp_in 18 n10) ∧
    ∀ h29 : pm_H, h29 = sl h28 h7.1.length (18 : Int32).toNatClampNeg (913652 : Int64) →
    (vp_in 19 n10) ∧
    ∀ h30 : pm_H, h30 = sl h29 h7.1.length (19 : Int32).toNatClampNeg (1389674843 : Int64) →
    (vp_in 20 n10) ∧
    ∀ h31 : pm_H, h31 = sl h30 h7.1.length (20 : Int32).toNatClampNeg (36016323 : Int64) →
    (vp_in 21 n10) ∧
    ∀ h32 : pm_H, h32 = sl h31 h7.1.length (21 : Int32).toNatClampNeg (1825 : Int64) →
    (h9.1[l0]? = some (0, 11)) ∧
    ∀ h33 : pm_H, h33 = sp h32 l0 9 h7.1.length →
    (h9.1.length < 1000) ∧
    ∀ h34 : pm_H, h34 = pm_nw h33 (1, 180) →
    (h34.1[l0]? = some (0, 11)) ∧
    ∀ h35 : pm_H, h35 = sp h34 l0 10 h9.1.length →
    (h34.1.length < 1000) ∧
    ∀ h36 : pm_H, h36 = pm_nw h35 (1, 2200) →
    (h36.1[l0]? = some (0, 11)) ∧
    ∀ h37 : pm_H, h37 = sp h36 l0 11 h34.1.length →
    (h36.1.length < 1000) ∧
    ∀ h38 : pm_H, h38 = pm_nw h37 (2, 50) →
    (h38.1[l0]? = some (0, 11)) ∧
    ∀ h39 : pm_H, h39 = sp h38 l0 13 h36.1.length →
    (h38.1.length < 1000) ∧
    ∀ h40 : pm_H, h40 = pm_nw h39 (1, 190) →
    (h40.1[l0]? = some (0, 11)) ∧
    ∀ h41 : pm_H, h41 = sp h40 l0 14 h38.1.length →
    (h40.1.length < 1000) ∧
    ∀ h42 : pm_H, h42 = pm_nw h41 (1, 4) →
    (h42.1[l0]? = some (0, 11)) ∧
    ∀ h43 : pm_H, h43 = sp h42 l0 15 h40.1.length →
    (h42.1.length < 1000) ∧
    ∀ h44 : pm_H, h44 = pm_nw h43 (1, 64) →
    (h44.1[l0]? = some (0, 11)) ∧
    ∀ h45 : pm_H, h45 = sp h44 l0 16 h42.1.length →
    (h44.1.length < 1000) ∧
    ∀ h46 : pm_H, h46 = pm_nw h45 (1, 4485) →
    (h46.1[l0]? = some (0, 11)) ∧
    ∀ h47 : pm_H, h47 = sp h46 l0 17 h44.1.length →
    (h46.1.length < 1000) ∧
    ∀ h48 : pm_H, h48 = pm_nw h47 (5, 2) →
    (h48.1[l0]? = some (0, 11)) ∧
    ∀ h49 : pm_H, h49 = sp h48 l0 20 h46.1.length →
    (h48.1.length < 1000) ∧
    ∀ h50 : pm_H, h50 = pm_nw h49 (1, 20) →
    (h50.1[l0]? = some (0, 11)) ∧
    ∀ h51 : pm_H, h51 = sp h50 l0 21 h48.1.length →
    (h50.1.length < 1000) ∧
    ∀ h52 : pm_H, h52 = pm_nw h51 (1, 20) →
    (h52.1[l0]? = some (0, 11)) ∧
    ∀ h53 : pm_H, h53 = sp h52 l0 22 h50.1.length →
    (h52.1.length < 1000) ∧
    ∀ h54 : pm_H, h54 = pm_nw h53 (1, 30) →
    (h54.1[l0]? = some (0, 11)) ∧
    ∀ h55 : pm_H, h55 = sp h54 l0 23 h52.1.length →
    cv G d m_X12_standsAsAlways [.ref l0, .int 0] h55 fun h57 =>
    (h57.1[l0]? = some (0, 11)) ∧
    cv G d m_X12_begins [.ref l0] h57 fun h59 =>
    post none h59) :
    Wp G (m_X12_init, d + 1, 16, 11273, post) (0, 0) 0 [.ref l0] [] h := by
  refine w_aload_n dX12_init_0 rfl ?_
  obtain ⟨e1, w⟩ := w
  refine w_objInit dX12_init_1 g_1333 g_159 g_160 e1 (Nat.le_of_ble_eq_true rfl) (Nat.succ_le_succ (Nat.zero_le _)) ?_
  refine w_aload_n dX12_init_4 rfl ?_
  refine w_sipush (v := 1000) dX12_init_5 rfl ?_
  obtain ⟨e2, w⟩ := w
  refine w_newarr (t := 0) (N := 1000) dX12_init_8 (by simp) g_248 (by decide) rfl (by decide) e2 (by first | omega | decide | exact Nat.le_refl _ | (simp; done) | (simp; omega)) (by first | omega | decide | exact Nat.le_refl _ | (simp; done) | (simp; omega)) ?_
  obtain ⟨h1, qh1⟩ : ∃ y : pm_H, y = pm_nw h (1, 1000) := ⟨_, rfl⟩
  rw [← qh1]
  have w := w _ qh1
  obtain ⟨e1, w⟩ := w
  refine w_putp dX12_init_10 lk_RX12_14 e1 rfl (Or.inr ⟨rfl, rfl, lz_RX12_14⟩) ?_
  have w := w _ rfl
  refine w_aload_n dX12_init_13 rfl ?_
  refine w_sipush (v := 1002) dX12_init_14 rfl ?_
  obtain ⟨e2, w⟩ := w
  refine w_newarr (t := 0) (N := 1002) dX12_init_17 (by simp) g_248 (by decide) rfl (by decide) e2 (by first | omega | decide | exact Nat.le_refl _ | (simp; done) | (simp; omega)) (by first | omega | decide | exact Nat.le_refl _ | (simp; done) | (simp; omega)) ?_
  obtain ⟨h3, qh3⟩ : ∃ y : pm_H, y = pm_nw (sp h1 l0 1 h.1.length) (1, 1002) := ⟨_, rfl⟩
  rw [← qh3]
  have w := w _ qh3
  obtain ⟨e1, w⟩ := w
  refine w_putp dX12_init_19 lk_RX12_24 e1 rfl (Or.inr ⟨rfl, rfl, lz_RX12_24⟩) ?_
  have w := w _ rfl
  refine w_aload_n dX12_init_22 rfl ?_
  refine w_sipush (v := 1002) dX12_init_23 rfl ?_
  obtain ⟨e2, w⟩ := w
  refine w_newarr (t := 0) (N := 1002) dX12_init_26 (by simp) g_248 (by decide) rfl (by decide) e2 (by first | omega | decide | exact Nat.le_refl _ | (simp; done) | (simp; omega)) (by first | omega | decide | exact Nat.le_refl _ | (simp; done) | (simp; omega)) ?_
  obtain ⟨h5, qh5⟩ : ∃ y : pm_H, y = pm_nw (sp h3 l0 4 h1.1.length) (1, 1002) := ⟨_, rfl⟩
  rw [← qh5]
  have w := w _ qh5
  obtain ⟨e1, w⟩ := w
  refine w_putp dX12_init_28 lk_RX12_27 e1 rfl (Or.inr ⟨rfl, rfl, lz_RX12_27⟩) ?_
  have w := w _ rfl
  refine w_aload_n dX12_init_31 rfl ?_
  refine w_sipush (v := 1002) dX12_init_32 rfl ?_
  obtain ⟨e2, w⟩ := w
  refine w_newarr (t := 1) (N := 1002) dX12_init_35 (by simp) g_233 (by decide) rfl (by decide) e2 (by first | omega | decide | exact Nat.le_refl _ | (simp; done) | (simp; omega)) (by first | omega | decide | exact Nat.le_refl _ | (simp; done) | (simp; omega)) ?_
  obtain ⟨h7, qh7⟩ : ∃ y : pm_H, y = pm_nw (sp h5 l0 5 h3.1.length) (2, 1002) := ⟨_, rfl⟩
  rw [← qh7]
  have w := w _ qh7
  obtain ⟨e1, w⟩ := w
  refine w_putp dX12_init_37 lk_RX12_30 e1 rfl (Or.inr ⟨rfl, rfl, lz_RX12_30⟩) ?_
  have w := w _ rfl
  refine w_aload_n dX12_init_40 rfl ?_
  refine w_bipush (v := 22) dX12_init_41 rfl ?_
  obtain ⟨e2, w⟩ := w
  refine w_newarr (t := 1) (N := 22) dX12_init_43 (by simp) g_233 (by decide) rfl (by decide) e2 (by first | omega | decide | exact Nat.le_refl _ | (simp; done) | (simp; omega)) (by first | omega | decide | exact Nat.le_refl _ | (simp; done) | (simp; omega)) ?_
  obtain ⟨h9, qh9⟩ : ∃ y : pm_H, y = pm_nw (sp h7 l0 6 h5.1.length) (2, 22) := ⟨_, rfl⟩
  rw [← qh9]
  have w := w _ qh9
  refine w_dup dX12_init_45 rfl ?_
  refine w_iconst (v := 0) dX12_init_46 rfl ?_
  refine w_ldc2 (v := (412122 : Int64)) dX12_init_47 g_1334 ?_
  obtain ⟨n10, ln10, w⟩ := w
  obtain ⟨e2, w⟩ := w
  refine w_last dX12_init_50 ln10 e2 ?_
  have w := w _ rfl
  refine w_dup dX12_init_51 rfl ?_
  refine w_iconst (v := 1) dX12_init_52 rfl ?_
  refine w_ldc2 (v := (36021578 : Int64)) dX12_init_53 g_1335 ?_
  obtain ⟨e3, w⟩ := w
  refine w_last dX12_init_56 ln10 e3 ?_
  have w := w _ rfl
  refine w_dup dX12_init_57 rfl ?_
  refine w_iconst (v := 2) dX12_init_58 rfl ?_
  refine w_ldc2 (v := (483455 : Int64)) dX12_init_59 g_1336 ?_
  obtain ⟨e4, w⟩ := w
  refine w_last dX12_init_62 ln10 e4 ?_
  have w := w _ rfl
  refine w_dup dX12_init_63 rfl ?_
  refine w_iconst (v := 3) dX12_init_64 rfl ?_
  refine w_ldc2 (v := (790116 : Int64)) dX12_init_65 g_1337 ?_
  obtain ⟨e5, w⟩ := w
  refine w_last dX12_init_68 ln10 e5 ?_
  have w := w _ rfl
  refine w_dup dX12_init_69 rfl ?_
  refine w_iconst (v := 4) dX12_init_70 rfl ?_
  refine w_ldc2 (v := (347 : Int64)) dX12_init_71 g_1338 ?_
  obtain ⟨e6, w⟩ := w
  refine w_last dX12_init_74 ln10 e6 ?_
  have w := w _ rfl
  refine w_dup dX12_init_75 rfl ?_
  refine w_iconst (v := 5) dX12_init_76 rfl ?_
  refine w_ldc2 (v := (36016323 : Int64)) dX12_init_77 g_1339 ?_
  obtain ⟨e7, w⟩ := w
  refine w_last dX12_init_80 ln10 e7 ?_
  have w := w _ rfl
  refine w_dup dX12_init_81 rfl ?_
  refine w_bipush (v := 6) dX12_init_82 rfl ?_
  refine w_ldc2 (v := (14052286 : Int64)) dX12_init_84 g_1340 ?_
  obtain ⟨e8, w⟩ := w
  refine w_last dX12_init_87 ln10 e8 ?_
  have w := w _ rfl
  refine w_dup dX12_init_88 rfl ?_
  refine w_bipush (v := 7) dX12_init_89 rfl ?_
  refine w_ldc2 (v := (22701 : Int64)) dX12_init_91 g_1341 ?_
  obtain ⟨e9, w⟩ := w
  refine w_last dX12_init_94 ln10 e9 ?_
  have w := w _ rfl
  refine w_dup dX12_init_95 rfl ?_
  refine w_bipush (v := 8) dX12_init_96 rfl ?_
  refine w_ldc2 (v := (1014841 : Int64)) dX12_init_98 g_1342 ?_
  obtain ⟨e10, w⟩ := w
  refine w_last dX12_init_101 ln10 e10 ?_
  have w := w _ rfl
  refine w_dup dX12_init_102 rfl ?_
  refine w_bipush (v := 9) dX12_init_103 rfl ?_
  refine w_ldc2 (v := (665782 : Int64)) dX12_init_105 g_1343 ?_
  obtain ⟨e11, w⟩ := w
  refine w_last dX12_init_108 ln10 e11 ?_
  have w := w _ rfl
  refine w_dup dX12_init_109 rfl ?_
  refine w_bipush (v := 10) dX12_init_110 rfl ?_
  refine w_ldc2 (v := (1332798983 : Int64)) dX12_init_112 g_1344 ?_
  obtain ⟨e12, w⟩ := w
  refine w_last dX12_init_115 ln10 e12 ?_
  have w := w _ rfl
  refine w_dup dX12_init_116 rfl ?_
  refine w_bipush (v := 11) dX12_init_117 rfl ?_
  refine w_ldc2 (v := (30596128 : Int64)) dX12_init_119 g_1345 ?_
  obtain ⟨e13, w⟩ := w
  refine w_last dX12_init_122 ln10 e13 ?_
  have w := w _ rfl
  refine w_dup dX12_init_123 rfl ?_
  refine w_bipush (v := 12) dX12_init_124 rfl ?_
  refine w_ldc2 (v := (1490319949 : Int64)) dX12_init_126 g_1346 ?_
  obtain ⟨e14, w⟩ := w
  refine w_last dX12_init_129 ln10 e14 ?_
  have w := w _ rfl
  refine w_dup dX12_init_130 rfl ?_
  refine w_bipush (v := 13) dX12_init_131 rfl ?_
  refine w_ldc2 (v := (609950 : Int64)) dX12_init_133 g_1347 ?_
  obtain ⟨e15, w⟩ := w
  refine w_last dX12_init_136 ln10 e15 ?_
  have w := w _ rfl
  refine w_dup dX12_init_137 rfl ?_
  refine w_bipush (v := 14) dX12_init_138 rfl ?_
  refine w_ldc2 (v := (20687 : Int64)) dX12_init_140 g_1348 ?_
  obtain ⟨e16, w⟩ := w
  refine w_last dX12_init_143 ln10 e16 ?_
  have w := w _ rfl
  refine w_dup dX12_init_144 rfl ?_
  refine w_bipush (v := 15) dX12_init_145 rfl ?_
  refine w_ldc2 (v := (19741 : Int64)) dX12_init_147 g_1349 ?_
  obtain ⟨e17, w⟩ := w
  refine w_last dX12_init_150 ln10 e17 ?_
  have w := w _ rfl
  refine w_dup dX12_init_151 rfl ?_
  refine w_bipush (v := 16) dX12_init_152 rfl ?_
  refine w_ldc2 (v := (1891 : Int64)) dX12_init_154 g_1350 ?_
  obtain ⟨e18, w⟩ := w
  refine w_last dX12_init_157 ln10 e18 ?_
  have w := w _ rfl
  refine w_dup dX12_init_158 rfl ?_
  refine w_bipush (v := 17) dX12_init_159 rfl ?_
  refine w_ldc2 (v := (573 : Int64)) dX12_init_161 g_1351 ?_
  obtain ⟨e19, w⟩ := w
  refine w_last dX12_init_164 ln10 e19 ?_
  have w := w _ rfl
  refine w_dup dX12_init_165 rfl ?_
  refine w_bipush (v := 18) dX12_init_166 rfl ?_
  refine w_ldc2 (v := (913652 : Int64)) dX12_init_168 g_1352 ?_
  obtain ⟨e20, w⟩ := w
  refine w_last dX12_init_171 ln10 e20 ?_
  have w := w _ rfl
  refine w_dup dX12_init_172 rfl ?_
  refine w_bipush (v := 19) dX12_init_173 rfl ?_
  refine w_ldc2 (v := (1389674843 : Int64)) dX12_init_175 g_1353 ?_
  obtain ⟨e21, w⟩ := w
  refine w_last dX12_init_178 ln10 e21 ?_
  have w := w _ rfl
  refine w_dup dX12_init_179 rfl ?_
  refine w_bipush (v := 20) dX12_init_180 rfl ?_
  refine w_ldc2 (v := (36016323 : Int64)) dX12_init_182 g_1339 ?_
  obtain ⟨e22, w⟩ := w
  refine w_last dX12_init_185 ln10 e22 ?_
  have w := w _ rfl
  refine w_dup dX12_init_186 rfl ?_
  refine w_bipush (v := 21) dX12_init_187 rfl ?_
  refine w_ldc2 (v := (1825 : Int64)) dX12_init_189 g_1354 ?_
  obtain ⟨e23, w⟩ := w
  refine w_last dX12_init_192 ln10 e23 ?_
  have w := w _ rfl
  obtain ⟨e24, w⟩ := w
  refine w_putp dX12_init_193 lk_RX12_76 e24 rfl (Or.inr ⟨rfl, rfl, lz_RX12_76⟩) ?_
  have w := w _ rfl
  refine w_aload_n dX12_init_196 rfl ?_
  refine w_sipush (v := 180) dX12_init_197 rfl ?_
  obtain ⟨e25, w⟩ := w
  refine w_newarr (t := 0) (N := 180) dX12_init_200 (by simp) g_248 (by decide) rfl (by decide) e25 (by first | omega | decide | exact Nat.le_refl _ | (simp; done) | (simp; omega)) (by first | omega | decide | exact Nat.le_refl _ | (simp; done) | (simp; omega)) ?_
  obtain ⟨h34, qh34⟩ : ∃ y : pm_H, y = pm_nw (sp (sl (sl (sl (sl (sl (sl (sl (sl (sl (sl (sl (sl (sl (sl (sl (sl (sl (sl (sl (sl (sl (sl h9 h7.1.length (0 : Int32).toNatClampNeg (412122 : Int64)) h7.1.length (1 : Int32).toNatClampNeg (36021578 : Int64)) h7.1.length (2 : Int32).toNatClampNeg (483455 : Int64)) h7.1.length (3 : Int32).toNatClampNeg (790116 : Int64)) h7.1.length (4 : Int32).toNatClampNeg (347 : Int64)) h7.1.length (5 : Int32).toNatClampNeg (36016323 : Int64)) h7.1.length (6 : Int32).toNatClampNeg (14052286 : Int64)) h7.1.length (7 : Int32).toNatClampNeg (22701 : Int64)) h7.1.length (8 : Int32).toNatClampNeg (1014841 : Int64)) h7.1.length (9 : Int32).toNatClampNeg (665782 : Int64)) h7.1.length (10 : Int32).toNatClampNeg (1332798983 : Int64)) h7.1.length (11 : Int32).toNatClampNeg (30596128 : Int64)) h7.1.length (12 : Int32).toNatClampNeg (1490319949 : Int64)) h7.1.length (13 : Int32).toNatClampNeg (609950 : Int64)) h7.1.length (14 : Int32).toNatClampNeg (20687 : Int64)) h7.1.length (15 : Int32).toNatClampNeg (19741 : Int64)) h7.1.length (16 : Int32).toNatClampNeg (1891 : Int64)) h7.1.length (17 : Int32).toNatClampNeg (573 : Int64)) h7.1.length (18 : Int32).toNatClampNeg (913652 : Int64)) h7.1.length (19 : Int32).toNatClampNeg (1389674843 : Int64)) h7.1.length (20 : Int32).toNatClampNeg (36016323 : Int64)) h7.1.length (21 : Int32).toNatClampNeg (1825 : Int64)) l0 9 h7.1.length) (1, 180) := ⟨_, rfl⟩
  rw [← qh34]
  have w := w _ qh34
  obtain ⟨e1, w⟩ := w
  refine w_putp dX12_init_202 lk_RX12_79 e1 rfl (Or.inr ⟨rfl, rfl, lz_RX12_79⟩) ?_
  have w := w _ rfl
  refine w_aload_n dX12_init_205 rfl ?_
  refine w_sipush (v := 2200) dX12_init_206 rfl ?_
  obtain ⟨e2, w⟩ := w
  refine w_newarr (t := 0) (N := 2200) dX12_init_209 (by simp) g_248 (by decide) rfl (by decide) e2 (by first | omega | decide | exact Nat.le_refl _ | (simp; done) | (simp; omega)) (by first | omega | decide | exact Nat.le_refl _ | (simp; done) | (simp; omega)) ?_
  obtain ⟨h36, qh36⟩ : ∃ y : pm_H, y = pm_nw (sp h34 l0 10 h9.1.length) (1, 2200) := ⟨_, rfl⟩
  rw [← qh36]
  have w := w _ qh36
  obtain ⟨e1, w⟩ := w
  refine w_putp dX12_init_211 lk_RX12_82 e1 rfl (Or.inr ⟨rfl, rfl, lz_RX12_82⟩) ?_
  have w := w _ rfl
  refine w_aload_n dX12_init_214 rfl ?_
  refine w_bipush (v := 50) dX12_init_215 rfl ?_
  obtain ⟨e2, w⟩ := w
  refine w_newarr (t := 1) (N := 50) dX12_init_217 (by simp) g_233 (by decide) rfl (by decide) e2 (by first | omega | decide | exact Nat.le_refl _ | (simp; done) | (simp; omega)) (by first | omega | decide | exact Nat.le_refl _ | (simp; done) | (simp; omega)) ?_
  obtain ⟨h38, qh38⟩ : ∃ y : pm_H, y = pm_nw (sp h36 l0 11 h34.1.length) (2, 50) := ⟨_, rfl⟩
  rw [← qh38]
  have w := w _ qh38
  obtain ⟨e1, w⟩ := w
  refine w_putp dX12_init_219 lk_RX12_85 e1 rfl (Or.inr ⟨rfl, rfl, lz_RX12_85⟩) ?_
  have w := w _ rfl
  refine w_aload_n dX12_init_222 rfl ?_
  refine w_sipush (v := 190) dX12_init_223 rfl ?_
  obtain ⟨e2, w⟩ := w
  refine w_newarr (t := 0) (N := 190) dX12_init_226 (by simp) g_248 (by decide) rfl (by decide) e2 (by first | omega | decide | exact Nat.le_refl _ | (simp; done) | (simp; omega)) (by first | omega | decide | exact Nat.le_refl _ | (simp; done) | (simp; omega)) ?_
  obtain ⟨h40, qh40⟩ : ∃ y : pm_H, y = pm_nw (sp h38 l0 13 h36.1.length) (1, 190) := ⟨_, rfl⟩
  rw [← qh40]
  have w := w _ qh40
  obtain ⟨e1, w⟩ := w
  refine w_putp dX12_init_228 lk_RX12_88 e1 rfl (Or.inr ⟨rfl, rfl, lz_RX12_88⟩) ?_
  have w := w _ rfl
  refine w_aload_n dX12_init_231 rfl ?_
  refine w_iconst (v := 4) dX12_init_232 rfl ?_
  obtain ⟨e2, w⟩ := w
  refine w_newarr (t := 0) (N := 4) dX12_init_233 (by simp) g_248 (by decide) rfl (by decide) e2 (by first | omega | decide | exact Nat.le_refl _ | (simp; done) | (simp; omega)) (by first | omega | decide | exact Nat.le_refl _ | (simp; done) | (simp; omega)) ?_
  obtain ⟨h42, qh42⟩ : ∃ y : pm_H, y = pm_nw (sp h40 l0 14 h38.1.length) (1, 4) := ⟨_, rfl⟩
  rw [← qh42]
  have w := w _ qh42
  obtain ⟨e1, w⟩ := w
  refine w_putp dX12_init_235 lk_RX12_91 e1 rfl (Or.inr ⟨rfl, rfl, lz_RX12_91⟩) ?_
  have w := w _ rfl
  refine w_aload_n dX12_init_238 rfl ?_
  refine w_bipush (v := 64) dX12_init_239 rfl ?_
  obtain ⟨e2, w⟩ := w
  refine w_newarr (t := 0) (N := 64) dX12_init_241 (by simp) g_248 (by decide) rfl (by decide) e2 (by first | omega | decide | exact Nat.le_refl _ | (simp; done) | (simp; omega)) (by first | omega | decide | exact Nat.le_refl _ | (simp; done) | (simp; omega)) ?_
  obtain ⟨h44, qh44⟩ : ∃ y : pm_H, y = pm_nw (sp h42 l0 15 h40.1.length) (1, 64) := ⟨_, rfl⟩
  rw [← qh44]
  have w := w _ qh44
  obtain ⟨e1, w⟩ := w
  refine w_putp dX12_init_243 lk_RX12_94 e1 rfl (Or.inr ⟨rfl, rfl, lz_RX12_94⟩) ?_
  have w := w _ rfl
  refine w_aload_n dX12_init_246 rfl ?_
  refine w_sipush (v := 4485) dX12_init_247 rfl ?_
  obtain ⟨e2, w⟩ := w
  refine w_newarr (t := 0) (N := 4485) dX12_init_250 (by simp) g_248 (by decide) rfl (by decide) e2 (by first | omega | decide | exact Nat.le_refl _ | (simp; done) | (simp; omega)) (by first | omega | decide | exact Nat.le_refl _ | (simp; done) | (simp; omega)) ?_
  obtain ⟨h46, qh46⟩ : ∃ y : pm_H, y = pm_nw (sp h44 l0 16 h42.1.length) (1, 4485) := ⟨_, rfl⟩
  rw [← qh46]
  have w := w _ qh46
  obtain ⟨e1, w⟩ := w
  refine w_putp dX12_init_252 lk_RX12_97 e1 rfl (Or.inr ⟨rfl, rfl, lz_RX12_97⟩) ?_
  have w := w _ rfl
  refine w_aload_n dX12_init_255 rfl ?_
  refine w_iconst (v := 2) dX12_init_256 rfl ?_
  obtain ⟨e2, w⟩ := w
  refine w_newarr (t := 4) (N := 2) dX12_init_257 (by simp) g_1555 (by decide) rfl (by decide) e2 (by first | omega | decide | exact Nat.le_refl _ | (simp; done) | (simp; omega)) (by first | omega | decide | exact Nat.le_refl _ | (simp; done) | (simp; omega)) ?_
  obtain ⟨h48, qh48⟩ : ∃ y : pm_H, y = pm_nw (sp h46 l0 17 h44.1.length) (5, 2) := ⟨_, rfl⟩
  rw [← qh48]
  have w := w _ qh48
  obtain ⟨e1, w⟩ := w
  refine w_putp dX12_init_259 lk_RX12_100 e1 rfl (Or.inr ⟨rfl, rfl, lz_RX12_100⟩) ?_
  have w := w _ rfl
  refine w_aload_n dX12_init_262 rfl ?_
  refine w_bipush (v := 20) dX12_init_263 rfl ?_
  obtain ⟨e2, w⟩ := w
  refine w_newarr (t := 0) (N := 20) dX12_init_265 (by simp) g_248 (by decide) rfl (by decide) e2 (by first | omega | decide | exact Nat.le_refl _ | (simp; done) | (simp; omega)) (by first | omega | decide | exact Nat.le_refl _ | (simp; done) | (simp; omega)) ?_
  obtain ⟨h50, qh50⟩ : ∃ y : pm_H, y = pm_nw (sp h48 l0 20 h46.1.length) (1, 20) := ⟨_, rfl⟩
  rw [← qh50]
  have w := w _ qh50
  obtain ⟨e1, w⟩ := w
  refine w_putp dX12_init_267 lk_RX12_104 e1 rfl (Or.inr ⟨rfl, rfl, lz_RX12_104⟩) ?_
  have w := w _ rfl
  refine w_aload_n dX12_init_270 rfl ?_
  refine w_bipush (v := 20) dX12_init_271 rfl ?_
  obtain ⟨e2, w⟩ := w
  refine w_newarr (t := 0) (N := 20) dX12_init_273 (by simp) g_248 (by decide) rfl (by decide) e2 (by first | omega | decide | exact Nat.le_refl _ | (simp; done) | (simp; omega)) (by first | omega | decide | exact Nat.le_refl _ | (simp; done) | (simp; omega)) ?_
  obtain ⟨h52, qh52⟩ : ∃ y : pm_H, y = pm_nw (sp h50 l0 21 h48.1.length) (1, 20) := ⟨_, rfl⟩
  rw [← qh52]
  have w := w _ qh52
  obtain ⟨e1, w⟩ := w
  refine w_putp dX12_init_275 lk_RX12_107 e1 rfl (Or.inr ⟨rfl, rfl, lz_RX12_107⟩) ?_
  have w := w _ rfl
  refine w_aload_n dX12_init_278 rfl ?_
  refine w_bipush (v := 30) dX12_init_279 rfl ?_
  obtain ⟨e2, w⟩ := w
  refine w_newarr (t := 0) (N := 30) dX12_init_281 (by simp) g_248 (by decide) rfl (by decide) e2 (by first | omega | decide | exact Nat.le_refl _ | (simp; done) | (simp; omega)) (by first | omega | decide | exact Nat.le_refl _ | (simp; done) | (simp; omega)) ?_
  obtain ⟨h54, qh54⟩ : ∃ y : pm_H, y = pm_nw (sp h52 l0 22 h50.1.length) (1, 30) := ⟨_, rfl⟩
  rw [← qh54]
  have w := w _ qh54
  obtain ⟨e1, w⟩ := w
  refine w_putp dX12_init_283 lk_RX12_110 e1 rfl (Or.inr ⟨rfl, rfl, lz_RX12_110⟩) ?_
  have w := w _ rfl
  refine w_aload_n dX12_init_286 rfl ?_
  refine w_iconst (v := 0) dX12_init_287 rfl ?_
  refine w_callV (As := [.int 0]) (st := []) dX12_init_288 mt_X12_standsAsAlways g_1355 g_1357 g_50 rfl e1 rfl rfl (Nat.le_of_ble_eq_true rfl) (Nat.le_refl _) ⟨(by first | omega | decide | exact Nat.le_refl _ | (simp; done) | (simp; omega)), (by first | omega | decide | exact Nat.le_refl _ | (simp; done) | (simp; omega))⟩ w ?_
  rintro v h57 ⟨rfl, w⟩
  refine w_aload_n dX12_init_291 rfl ?_
  obtain ⟨e1, w⟩ := w
  refine w_callV (As := []) (st := []) dX12_init_292 mt_X12_begins g_1359 g_1361 g_51 rfl e1 rfl rfl (Nat.le_of_ble_eq_true rfl) (Nat.le_refl _) ⟨(by first | omega | decide | exact Nat.le_refl _ | (simp; done) | (simp; omega)), (by first | omega | decide | exact Nat.le_refl _ | (simp; done) | (simp; omega))⟩ w ?_
  rintro v h59 ⟨rfl, w⟩
  exact w_return dX12_init_295 rfl ⟨(by first | omega | decide | exact Nat.le_refl _ | (simp; done) | (simp; omega)), (by first | omega | decide | exact Nat.le_refl _ | (simp; done) | (simp; omega))⟩ w
