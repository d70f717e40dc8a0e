set_option linter.all false
set_option maxRecDepth 20000 in
set_option maxHeartbeats 4000000 in
theorem x_X1_add {G : pm_G} {d : Nat} {post : pm_PT} {h : pm_H} {l0 : Nat} {l1 : Int32} (w :
    (h.1[l0]? = some (0, 1)) ∧
    (h.1[gp h l0 0]? = some (0, 6)) ∧
    cv G d m_X6_set [.ref (gp h l0 0), .int (gi h l0 1), .int l1] h fun h2 =>
    (h2.1[l0]? = some (0, 1)) ∧
    ci G d m_J9_min_7cf53 [.int ((gi h2 l0 1) + 1), .int 1000] h2 fun r3 h4 =>
    (h4.1[l0]? = some (0, 1)) ∧
    ∀ h5 : pm_H, h5 = si h4 l0 1 r3 →
    post none h5) :
    Wp G (m_X1_add, d + 1, 0, 0, post) (0, 0) 0 [.ref l0, .int l1] [] h := by
  refine w_aload_n dX1_add_0 rfl ?_
  obtain ⟨e1, w⟩ := w
  refine w_getp dX1_add_1 lk_RX1_14 e1 rfl ?_
  refine w_aload_n dX1_add_4 rfl ?_
  refine w_geti dX1_add_5 lk_RX1_18 e1 rfl ?_
  refine w_iload_n dX1_add_8 rfl ?_
  obtain ⟨e2, w⟩ := w
  refine w_callV (As := [.int (gi h l0 1), .int l1]) (st := []) dX1_add_9 mt_X6_set g_734 g_667 g_668 rfl e2 rfl rfl (Nat.le_of_ble_eq_true rfl) (Nat.le_refl _) ⟨Nat.le_refl _, Nat.le_refl _⟩ w ?_
  rintro v h2 ⟨rfl, w⟩
  refine w_aload_n dX1_add_12 rfl ?_
  refine w_aload_n dX1_add_13 rfl ?_
  obtain ⟨e1, w⟩ := w
  refine w_geti dX1_add_14 lk_RX1_18 e1 rfl ?_
  refine w_iconst (v := 1) dX1_add_17 rfl ?_
  refine w_iadd dX1_add_18 ?_
  refine w_sipush (v := 1000) dX1_add_19 rfl ?_
  refine w_callS (As := [.int ((gi h2 l0 1) + 1), .int 1000]) (st := [.ref l0]) dX1_add_22 mt_J9_min_7cf53 g_735 g_736 rfl rfl (Nat.le_of_ble_eq_true rfl) (Nat.le_refl _) ⟨Nat.le_refl _, Nat.le_refl _⟩ w ?_
  rintro v h4 ⟨r3, rfl, w⟩
  obtain ⟨e1, w⟩ := w
  refine w_puti dX1_add_25 lk_RX1_18 e1 rfl (Or.inl rfl) ?_
  have w := w _ rfl
  exact w_return dX1_add_28 rfl ⟨Nat.le_refl _, Nat.le_refl _⟩ w
set_option maxRecDepth 20000 in
set_option maxHeartbeats 4000000 in
theorem x_X1_copyFrom {G : pm_G} {d : Nat} {post : pm_PT} {h : pm_H} {l0 : Nat} {l1 : Nat} (w :
    (h.1[l0]? = some (0, 1)) ∧
    (h.1[l1]? = some (0, 1)) ∧
    (h.1[gp h l0 0]? = some (0, 6)) ∧
    cv G d m_X6_copyFrom [.ref (gp h l0 0), .ref (gp h l1 0)] h fun h2 =>
    (h2.1[l1]? = some (0, 1)) ∧
    (h2.1[l0]? = some (0, 1)) ∧
    ∀ h3 : pm_H, h3 = si h2 l0 1 (gi h2 l1 1) →
    post none h3) :
    Wp G (m_X1_copyFrom, d + 1, 0, 0, post) (0, 0) 0 [.ref l0, .ref l1] [] h := by
  refine w_aload_n dX1_copyFrom_0 rfl ?_
  obtain ⟨e1, w⟩ := w
  refine w_getp dX1_copyFrom_1 lk_RX1_14 e1 rfl ?_
  refine w_aload_n dX1_copyFrom_4 rfl ?_
  obtain ⟨e2, w⟩ := w
  refine w_getp dX1_copyFrom_5 lk_RX1_14 e2 rfl ?_
  obtain ⟨e3, w⟩ := w
  refine w_callV (As := [.ref (gp h l1 0)]) (st := []) dX1_copyFrom_8 mt_X6_copyFrom g_787 g_776 g_777 rfl e3 rfl rfl (Nat.le_of_ble_eq_true rfl) (Nat.le_refl _) ⟨Nat.le_refl _, Nat.le_refl _⟩ w ?_
  rintro v h2 ⟨rfl, w⟩
  refine w_aload_n dX1_copyFrom_11 rfl ?_
  refine w_aload_n dX1_copyFrom_12 rfl ?_
  obtain ⟨e1, w⟩ := w
  refine w_geti dX1_copyFrom_13 lk_RX1_18 e1 rfl ?_
  obtain ⟨e2, w⟩ := w
  refine w_puti dX1_copyFrom_16 lk_RX1_18 e2 rfl (Or.inl rfl) ?_
  have w := w _ rfl
  exact w_return dX1_copyFrom_19 rfl ⟨Nat.le_refl _, Nat.le_refl _⟩ w
set_option maxRecDepth 20000 in
set_option maxHeartbeats 4000000 in
theorem x_X1_targetFor {G : pm_G} {d : Nat} {post : pm_PT} {h : pm_H} {l0 : Nat} {l1 : Int32} {l2 : Int32} {l3 : Int32} {l4 : Int32} (w :
    (h.1[l0]? = some (0, 1)) ∧
    if (gi h l0 1) = 0 then (
      if l3 < l1 then (
        ci G d m_J9_min_7cf53 [.int 99, .int (((3 * l2) + 1) / 2)] h fun r1 h2 =>
        ci G d m_J9_max_7cf53 [.int 1, .int r1] h2 fun r3 h4 =>
        post (some (.int r3)) h4
      ) else (
        ci G d m_J9_min_7cf53 [.int 99, .int 1] h fun r5 h6 =>
        ci G d m_J9_max_7cf53 [.int 1, .int r5] h6 fun r7 h8 =>
        post (some (.int r7)) h8
      )
    ) else (
      ci G d m_X1_workedOut [.ref l0, .int l1, .int l2, .int l3, .int l4] h fun r9 h10 =>
      ci G d m_J9_min_7cf53 [.int 99, .int r9] h10 fun r11 h12 =>
      ci G d m_J9_max_7cf53 [.int 1, .int r11] h12 fun r13 h14 =>
      post (some (.int r13)) h14
    )) :
    Wp G (m_X1_targetFor, d + 1, 0, 0, post) (0, 0) 0 [.ref l0, .int l1, .int l2, .int l3, .int l4, .null] [] h := by
  refine w_aload_n dX1_targetFor_0 rfl ?_
  obtain ⟨e1, w⟩ := w
  refine w_geti dX1_targetFor_1 lk_RX1_18 e1 rfl ?_
  refine w_if_ne (tgt := 28) dX1_targetFor_4 rfl (fun c => ?_) (fun c => ?_)
  · rw [if_neg c] at w
    refine w_aload_n dX1_targetFor_28 rfl ?_
    refine w_iload_n dX1_targetFor_29 rfl ?_
    refine w_iload_n dX1_targetFor_30 rfl ?_
    refine w_iload_n dX1_targetFor_31 rfl ?_
    refine w_iload dX1_targetFor_32 rfl ?_
    refine w_callV (As := [.int l1, .int l2, .int l3, .int l4]) (st := []) dX1_targetFor_34 mt_X1_workedOut g_825 g_827 g_27 rfl e1 rfl rfl (Nat.le_of_ble_eq_true rfl) (Nat.le_refl _) ⟨Nat.le_refl _, Nat.le_refl _⟩ w ?_
    rintro v h10 ⟨r9, rfl, w⟩
    refine v_istore (l' := [.ref l0, .int l1, .int l2, .int l3, .int l4, .int r9]) dX1_targetFor_37 (Nat.le_of_ble_eq_true rfl) rfl ?_
    refine w_iconst (v := 1) dX1_targetFor_39 rfl ?_
    refine w_bipush (v := 99) dX1_targetFor_40 rfl ?_
    refine w_iload dX1_targetFor_42 rfl ?_
    refine w_callS (As := [.int 99, .int r9]) (st := [.int 1]) dX1_targetFor_44 mt_J9_min_7cf53 g_735 g_736 rfl rfl (Nat.le_of_ble_eq_true rfl) (Nat.le_refl _) ⟨Nat.le_refl _, Nat.le_refl _⟩ w ?_
    rintro v h12 ⟨r11, rfl, w⟩
    refine w_callS (As := [.int 1, .int r11]) (st := []) dX1_targetFor_47 mt_J9_max_7cf53 g_833 g_819 rfl rfl (Nat.le_of_ble_eq_true rfl) (Nat.le_refl _) ⟨Nat.le_refl _, Nat.le_refl _⟩ w ?_
    rintro v h14 ⟨r13, rfl, w⟩
    exact w_ireturn dX1_targetFor_50 rfl rfl ⟨Nat.le_refl _, Nat.le_refl _⟩ w
  · rw [if_pos c] at w
    refine w_iload_n dX1_targetFor_7 rfl ?_
    refine w_iload_n dX1_targetFor_8 rfl ?_
    refine w_ic_gt (tgt := 16) dX1_targetFor_9 rfl (fun c => ?_) (fun c => ?_)
    · rw [if_pos c] at w
      refine w_iconst (v := 3) dX1_targetFor_16 rfl ?_
      refine w_iload_n dX1_targetFor_17 rfl ?_
      refine w_imul dX1_targetFor_18 ?_
      refine w_iconst (v := 1) dX1_targetFor_19 rfl ?_
      refine w_iadd dX1_targetFor_20 ?_
      refine w_iconst (v := 2) dX1_targetFor_21 rfl ?_
      refine w_idiv dX1_targetFor_22 (by decide) ?_
      refine v_istore (l' := [.ref l0, .int l1, .int l2, .int l3, .int l4, .int (((3 * l2) + 1) / 2)]) dX1_targetFor_23 (Nat.le_of_ble_eq_true rfl) rfl ?_
      refine w_goto (tgt := 39) dX1_targetFor_25 rfl ?_
      refine w_iconst (v := 1) dX1_targetFor_39 rfl ?_
      refine w_bipush (v := 99) dX1_targetFor_40 rfl ?_
      refine w_iload dX1_targetFor_42 rfl ?_
      refine w_callS (As := [.int 99, .int (((3 * l2) + 1) / 2)]) (st := [.int 1]) dX1_targetFor_44 mt_J9_min_7cf53 g_735 g_736 rfl rfl (Nat.le_of_ble_eq_true rfl) (Nat.le_refl _) ⟨Nat.le_refl _, Nat.le_refl _⟩ w ?_
      rintro v h2 ⟨r1, rfl, w⟩
      refine w_callS (As := [.int 1, .int r1]) (st := []) dX1_targetFor_47 mt_J9_max_7cf53 g_833 g_819 rfl rfl (Nat.le_of_ble_eq_true rfl) (Nat.le_refl _) ⟨Nat.le_refl _, Nat.le_refl _⟩ w ?_
      rintro v h4 ⟨r3, rfl, w⟩
      exact w_ireturn dX1_targetFor_50 rfl rfl ⟨Nat.le_refl _, Nat.le_refl _⟩ w
    · rw [if_neg c] at w
      refine w_iconst (v := 1) dX1_targetFor_12 rfl ?_
      refine w_goto (tgt := 23) dX1_targetFor_13 rfl ?_
      refine v_istore (l' := [.ref l0, .int l1, .int l2, .int l3, .int l4, .int 1]) dX1_targetFor_23 (Nat.le_of_ble_eq_true rfl) rfl ?_
      refine w_goto (tgt := 39) dX1_targetFor_25 rfl ?_
      refine w_iconst (v := 1) dX1_targetFor_39 rfl ?_
      refine w_bipush (v := 99) dX1_targetFor_40 rfl ?_
      refine w_iload dX1_targetFor_42 rfl ?_
      refine w_callS (As := [.int 99, .int 1]) (st := [.int 1]) dX1_targetFor_44 mt_J9_min_7cf53 g_735 g_736 rfl rfl (Nat.le_of_ble_eq_true rfl) (Nat.le_refl _) ⟨Nat.le_refl _, Nat.le_refl _⟩ w ?_
      rintro v h6 ⟨r5, rfl, w⟩
      refine w_callS (As := [.int 1, .int r5]) (st := []) dX1_targetFor_47 mt_J9_max_7cf53 g_833 g_819 rfl rfl (Nat.le_of_ble_eq_true rfl) (Nat.le_refl _) ⟨Nat.le_refl _, Nat.le_refl _⟩ w ?_
      rintro v h8 ⟨r7, rfl, w⟩
      exact w_ireturn dX1_targetFor_50 rfl rfl ⟨Nat.le_refl _, Nat.le_refl _⟩ w
set_option maxRecDepth 20000 in
set_option maxHeartbeats 4000000 in
theorem x_X1_workedOut {G : pm_G} {d : Nat} {post : pm_PT} {h : pm_H} {l0 : Nat} {l1 : Int32} {l2 : Int32} {l3 : Int32} {l4 : Int32} (w :
    Wp G (m_X1_workedOut, d + 1, 0, 0, post) (0, 0) 6 [.ref l0, .int l1, .int l2, .int l3, .int l4, .int 0, .int 0, .null, .null] [] h) :
    Wp G (m_X1_workedOut, d + 1, 0, 0, post) (0, 0) 0 [.ref l0, .int l1, .int l2, .int l3, .int l4, .null, .null, .null, .null] [] h := by
  refine w_iconst (v := 0) dX1_workedOut_0 rfl ?_
  refine v_istore (l' := [.ref l0, .int l1, .int l2, .int l3, .int l4, .int 0, .null, .null, .null]) dX1_workedOut_1 (Nat.le_of_ble_eq_true rfl) rfl ?_
  refine w_iconst (v := 0) dX1_workedOut_3 rfl ?_
  refine v_istore (l' := [.ref l0, .int l1, .int l2, .int l3, .int l4, .int 0, .int 0, .null, .null]) dX1_workedOut_4 (Nat.le_of_ble_eq_true rfl) rfl ?_
  exact w
set_option maxRecDepth 20000 in
set_option maxHeartbeats 4000000 in
theorem x_X1_workedOut_6 {G : pm_G} {d : Nat} {post : pm_PT} {h : pm_H} {l0 : Nat} {l1 : Int32} {l2 : Int32} {l3 : Int32} {l4 : Int32} {l5 : Int32} {l6 : Int32} (w :
    (h.1[l0]? = some (0, 1)) ∧
    if (gi h l0 1) ≤ l6 then (
      (h.1[gp h l0 2]? = some (0, 6)) ∧
      ci G d m_X6_at [.ref (gp h l0 2), .int 0] h fun r1 h2 =>
      post (some (.int r1)) h2
    ) else (
      (h.1[gp h l0 0]? = some (0, 6)) ∧
      ci G d m_X6_at [.ref (gp h l0 0), .int l6] h fun r3 h4 =>
      (h4.1[l0]? = some (0, 1)) ∧
      (h4.1[gp h4 l0 2]? = some (0, 6)) ∧
      ci G d m_X6_at [.ref (gp h4 l0 2), .int (l5 - 1)] h4 fun r5 h6 =>
      if r3 = (-7) then (
        (h6.1[l0]? = some (0, 1)) ∧
        if r5 = 0 then (
          (h6.1[gp h6 l0 2]? = some (0, 6)) ∧
          cv G d m_X6_set [.ref (gp h6 l0 2), .int (l5 - 1), .int 1] h6 fun h8 =>
          Wp G (m_X1_workedOut, d + 1, 0, 0, post) (0, 0) 6 [.ref l0, .int l1, .int l2, .int l3, .int l4, .int l5, .int (l6 + 1), .null, .null] [] h8
        ) else (
          (h6.1[gp h6 l0 2]? = some (0, 6)) ∧
          cv G d m_X6_set [.ref (gp h6 l0 2), .int (l5 - 1), .int 0] h6 fun h10 =>
          Wp G (m_X1_workedOut, d + 1, 0, 0, post) (0, 0) 6 [.ref l0, .int l1, .int l2, .int l3, .int l4, .int l5, .int (l6 + 1), .null, .null] [] h10
        )
      ) else (
        if (-8) < r3 then (
          (h6.1[l0]? = some (0, 1)) ∧
          if r3 < 0 then (
            if r3 = (-2) then (
              (h6.1[gp h6 l0 2]? = some (0, 6)) ∧
              cv G d m_X6_set [.ref (gp h6 l0 2), .int l5, .int l1] h6 fun h12 =>
              Wp G (m_X1_workedOut, d + 1, 0, 0, post) (0, 0) 6 [.ref l0, .int l1, .int l2, .int l3, .int l4, .int (l5 + 1), .int (l6 + 1), .null, .null] [] h12
            ) else (
              if r3 = (-3) then (
                (h6.1[gp h6 l0 2]? = some (0, 6)) ∧
                cv G d m_X6_set [.ref (gp h6 l0 2), .int l5, .int l2] h6 fun h14 =>
                Wp G (m_X1_workedOut, d + 1, 0, 0, post) (0, 0) 6 [.ref l0, .int l1, .int l2, .int l3, .int l4, .int (l5 + 1), .int (l6 + 1), .null, .null] [] h14
              ) else (
                if r3 = (-4) then (
                  (h6.1[gp h6 l0 2]? = some (0, 6)) ∧
                  cv G d m_X6_set [.ref (gp h6 l0 2), .int l5, .int l3] h6 fun h16 =>
                  Wp G (m_X1_workedOut, d + 1, 0, 0, post) (0, 0) 6 [.ref l0, .int l1, .int l2, .int l3, .int l4, .int (l5 + 1), .int (l6 + 1), .null, .null] [] h16
                ) else (
                  (h6.1[gp h6 l0 2]? = some (0, 6)) ∧
                  cv G d m_X6_set [.ref (gp h6 l0 2), .int l5, .int l4] h6 fun h18 =>
                  Wp G (m_X1_workedOut, d + 1, 0, 0, post) (0, 0) 6 [.ref l0, .int l1, .int l2, .int l3, .int l4, .int (l5 + 1), .int (l6 + 1), .null, .null] [] h18
                )
              )
            )
          ) else (
            (h6.1[gp h6 l0 2]? = some (0, 6)) ∧
            cv G d m_X6_set [.ref (gp h6 l0 2), .int l5, .int r3] h6 fun h20 =>
            Wp G (m_X1_workedOut, d + 1, 0, 0, post) (0, 0) 6 [.ref l0, .int l1, .int l2, .int l3, .int l4, .int (l5 + 1), .int (l6 + 1), .null, .null] [] h20
          )
        ) else (
          (h6.1[l0]? = some (0, 1)) ∧
          (h6.1[gp h6 l0 2]? = some (0, 6)) ∧
          ci G d m_X6_at [.ref (gp h6 l0 2), .int ((l5 + (-1)) - 1)] h6 fun r21 h22 =>
          ci G d m_X1_joined [.int r3, .int r21, .int r5] h22 fun r23 h24 =>
          (h24.1[gp h6 l0 2]? = some (0, 6)) ∧
          cv G d m_X6_set [.ref (gp h6 l0 2), .int ((l5 + (-1)) - 1), .int r23] h24 fun h26 =>
          Wp G (m_X1_workedOut, d + 1, 0, 0, post) (0, 0) 6 [.ref l0, .int l1, .int l2, .int l3, .int l4, .int (l5 + (-1)), .int (l6 + 1), .null, .null] [] h26
        )
      )
    )) :
    Wp G (m_X1_workedOut, d + 1, 0, 0, post) (0, 0) 6 [.ref l0, .int l1, .int l2, .int l3, .int l4, .int l5, .int l6, .null, .null] [] h := by
  refine w_iload dX1_workedOut_6 rfl ?_
  refine w_aload_n dX1_workedOut_8 rfl ?_
  obtain ⟨e1, w⟩ := w
  refine w_geti dX1_workedOut_9 lk_RX1_18 e1 rfl ?_
  refine w_ic_ge (tgt := 175) dX1_workedOut_12 rfl (fun c => ?_) (fun c => ?_)
  · rw [if_pos c] at w
    refine w_aload_n dX1_workedOut_175 rfl ?_
    refine w_getp dX1_workedOut_176 lk_RX1_22 e1 rfl ?_
    refine w_iconst (v := 0) dX1_workedOut_179 rfl ?_
    obtain ⟨e2, w⟩ := w
    refine w_callV (As := [.int 0]) (st := []) dX1_workedOut_180 mt_X6_at g_829 g_724 g_725 rfl e2 rfl rfl (Nat.le_of_ble_eq_true rfl) (Nat.le_refl _) ⟨Nat.le_refl _, Nat.le_refl _⟩ w ?_
    rintro v h2 ⟨r1, rfl, w⟩
    exact w_ireturn dX1_workedOut_183 rfl rfl ⟨Nat.le_refl _, Nat.le_refl _⟩ w
  · rw [if_neg c] at w
    refine w_aload_n dX1_workedOut_15 rfl ?_
    refine w_getp dX1_workedOut_16 lk_RX1_14 e1 rfl ?_
    refine w_iload dX1_workedOut_19 rfl ?_
    obtain ⟨e2, w⟩ := w
    refine w_callV (As := [.int l6]) (st := []) dX1_workedOut_21 mt_X6_at g_829 g_724 g_725 rfl e2 rfl rfl (Nat.le_of_ble_eq_true rfl) (Nat.le_refl _) ⟨Nat.le_refl _, Nat.le_refl _⟩ w ?_
    rintro v h4 ⟨r3, rfl, w⟩
    refine v_istore (l' := [.ref l0, .int l1, .int l2, .int l3, .int l4, .int l5, .int l6, .int r3, .null]) dX1_workedOut_24 (Nat.le_of_ble_eq_true rfl) rfl ?_
    refine w_aload_n dX1_workedOut_26 rfl ?_
    obtain ⟨e1, w⟩ := w
    refine w_getp dX1_workedOut_27 lk_RX1_22 e1 rfl ?_
    refine w_iload dX1_workedOut_30 rfl ?_
    refine w_iconst (v := 1) dX1_workedOut_32 rfl ?_
    refine w_isub dX1_workedOut_33 ?_
    obtain ⟨e2, w⟩ := w
    refine w_callV (As := [.int (l5 - 1)]) (st := []) dX1_workedOut_34 mt_X6_at g_829 g_724 g_725 rfl e2 rfl rfl (Nat.le_of_ble_eq_true rfl) (Nat.le_refl _) ⟨Nat.le_refl _, Nat.le_refl _⟩ w ?_
    rintro v h6 ⟨r5, rfl, w⟩
    refine v_istore (l' := [.ref l0, .int l1, .int l2, .int l3, .int l4, .int l5, .int l6, .int r3, .int r5]) dX1_workedOut_37 (Nat.le_of_ble_eq_true rfl) rfl ?_
    refine w_iload dX1_workedOut_39 rfl ?_
    refine w_bipush (v := (-7)) dX1_workedOut_41 rfl ?_
    refine w_ic_ne (tgt := 70) dX1_workedOut_43 rfl (fun c => ?_) (fun c => ?_)
    · rw [if_neg c] at w
      refine w_iload dX1_workedOut_70 rfl ?_
      refine w_bipush (v := (-8)) dX1_workedOut_72 rfl ?_
      refine w_ic_gt (tgt := 112) dX1_workedOut_74 rfl (fun c => ?_) (fun c => ?_)
      · rw [if_pos c] at w
        refine w_aload_n dX1_workedOut_112 rfl ?_
        obtain ⟨e1, w⟩ := w
        refine w_getp dX1_workedOut_113 lk_RX1_22 e1 rfl ?_
        refine w_iload dX1_workedOut_116 rfl ?_
        refine w_iload dX1_workedOut_118 rfl ?_
        refine w_if_lt (tgt := 128) dX1_workedOut_120 rfl (fun c => ?_) (fun c => ?_)
        · rw [if_pos c] at w
          refine w_iload dX1_workedOut_128 rfl ?_
          refine w_bipush (v := (-2)) dX1_workedOut_130 rfl ?_
          refine w_ic_ne (tgt := 139) dX1_workedOut_132 rfl (fun c => ?_) (fun c => ?_)
          · rw [if_neg c] at w
            refine w_iload dX1_workedOut_139 rfl ?_
            refine w_bipush (v := (-3)) dX1_workedOut_141 rfl ?_
            refine w_ic_ne (tgt := 150) dX1_workedOut_143 rfl (fun c => ?_) (fun c => ?_)
            · rw [if_neg c] at w
              refine w_iload dX1_workedOut_150 rfl ?_
              refine w_bipush (v := (-4)) dX1_workedOut_152 rfl ?_
              refine w_ic_ne (tgt := 161) dX1_workedOut_154 rfl (fun c => ?_) (fun c => ?_)
              · rw [if_neg c] at w
                refine w_iload dX1_workedOut_161 rfl ?_
                obtain ⟨e2, w⟩ := w
                refine w_callV (As := [.int l5, .int l4]) (st := []) dX1_workedOut_163 mt_X6_set g_734 g_667 g_668 rfl e2 rfl rfl (Nat.le_of_ble_eq_true rfl) (Nat.le_refl _) ⟨Nat.le_refl _, Nat.le_refl _⟩ w ?_
                rintro v h18 ⟨rfl, w⟩
                refine v_iinc (l' := [.ref l0, .int l1, .int l2, .int l3, .int l4, .int (l5 + 1), .int l6, .int r3, .int r5]) (v := l5 + 1) dX1_workedOut_166 rfl rfl (Nat.le_of_ble_eq_true rfl) rfl ?_
                refine v_iinc (l' := [.ref l0, .int l1, .int l2, .int l3, .int l4, .int (l5 + 1), .int (l6 + 1), .int r3, .int r5]) (v := l6 + 1) dX1_workedOut_169 rfl rfl (Nat.le_of_ble_eq_true rfl) rfl ?_
                refine w_goto (tgt := 6) dX1_workedOut_172 rfl ?_
                exact w_drop (l' := [.ref l0, .int l1, .int l2, .int l3, .int l4, .int (l5 + 1), .int (l6 + 1), .null, .null]) ⟨Or.inr rfl, Or.inr rfl, Or.inr rfl, Or.inr rfl, Or.inr rfl, Or.inr rfl, Or.inr rfl, Or.inl rfl, Or.inl rfl, trivial⟩ w
              · rw [if_pos c] at w
                refine w_iload_n dX1_workedOut_157 rfl ?_
                refine w_goto (tgt := 163) dX1_workedOut_158 rfl ?_
                obtain ⟨e2, w⟩ := w
                refine w_callV (As := [.int l5, .int l3]) (st := []) dX1_workedOut_163 mt_X6_set g_734 g_667 g_668 rfl e2 rfl rfl (Nat.le_of_ble_eq_true rfl) (Nat.le_refl _) ⟨Nat.le_refl _, Nat.le_refl _⟩ w ?_
                rintro v h16 ⟨rfl, w⟩
                refine v_iinc (l' := [.ref l0, .int l1, .int l2, .int l3, .int l4, .int (l5 + 1), .int l6, .int r3, .int r5]) (v := l5 + 1) dX1_workedOut_166 rfl rfl (Nat.le_of_ble_eq_true rfl) rfl ?_
                refine v_iinc (l' := [.ref l0, .int l1, .int l2, .int l3, .int l4, .int (l5 + 1), .int (l6 + 1), .int r3, .int r5]) (v := l6 + 1) dX1_workedOut_169 rfl rfl (Nat.le_of_ble_eq_true rfl) rfl ?_
                refine w_goto (tgt := 6) dX1_workedOut_172 rfl ?_
                exact w_drop (l' := [.ref l0, .int l1, .int l2, .int l3, .int l4, .int (l5 + 1), .int (l6 + 1), .null, .null]) ⟨Or.inr rfl, Or.inr rfl, Or.inr rfl, Or.inr rfl, Or.inr rfl, Or.inr rfl, Or.inr rfl, Or.inl rfl, Or.inl rfl, trivial⟩ w
            · rw [if_pos c] at w
              refine w_iload_n dX1_workedOut_146 rfl ?_
              refine w_goto (tgt := 163) dX1_workedOut_147 rfl ?_
              obtain ⟨e2, w⟩ := w
              refine w_callV (As := [.int l5, .int l2]) (st := []) dX1_workedOut_163 mt_X6_set g_734 g_667 g_668 rfl e2 rfl rfl (Nat.le_of_ble_eq_true rfl) (Nat.le_refl _) ⟨Nat.le_refl _, Nat.le_refl _⟩ w ?_
              rintro v h14 ⟨rfl, w⟩
              refine v_iinc (l' := [.ref l0, .int l1, .int l2, .int l3, .int l4, .int (l5 + 1), .int l6, .int r3, .int r5]) (v := l5 + 1) dX1_workedOut_166 rfl rfl (Nat.le_of_ble_eq_true rfl) rfl ?_
              refine v_iinc (l' := [.ref l0, .int l1, .int l2, .int l3, .int l4, .int (l5 + 1), .int (l6 + 1), .int r3, .int r5]) (v := l6 + 1) dX1_workedOut_169 rfl rfl (Nat.le_of_ble_eq_true rfl) rfl ?_
              refine w_goto (tgt := 6) dX1_workedOut_172 rfl ?_
              exact w_drop (l' := [.ref l0, .int l1, .int l2, .int l3, .int l4, .int (l5 + 1), .int (l6 + 1), .null, .null]) ⟨Or.inr rfl, Or.inr rfl, Or.inr rfl, Or.inr rfl, Or.inr rfl, Or.inr rfl, Or.inr rfl, Or.inl rfl, Or.inl rfl, trivial⟩ w
          · rw [if_pos c] at w
            refine w_iload_n dX1_workedOut_135 rfl ?_
            refine w_goto (tgt := 163) dX1_workedOut_136 rfl ?_
            obtain ⟨e2, w⟩ := w
            refine w_callV (As := [.int l5, .int l1]) (st := []) dX1_workedOut_163 mt_X6_set g_734 g_667 g_668 rfl e2 rfl rfl (Nat.le_of_ble_eq_true rfl) (Nat.le_refl _) ⟨Nat.le_refl _, Nat.le_refl _⟩ w ?_
            rintro v h12 ⟨rfl, w⟩
            refine v_iinc (l' := [.ref l0, .int l1, .int l2, .int l3, .int l4, .int (l5 + 1), .int l6, .int r3, .int r5]) (v := l5 + 1) dX1_workedOut_166 rfl rfl (Nat.le_of_ble_eq_true rfl) rfl ?_
            refine v_iinc (l' := [.ref l0, .int l1, .int l2, .int l3, .int l4, .int (l5 + 1), .int (l6 + 1), .int r3, .int r5]) (v := l6 + 1) dX1_workedOut_169 rfl rfl (Nat.le_of_ble_eq_true rfl) rfl ?_
            refine w_goto (tgt := 6) dX1_workedOut_172 rfl ?_
            exact w_drop (l' := [.ref l0, .int l1, .int l2, .int l3, .int l4, .int (l5 + 1), .int (l6 + 1), .null, .null]) ⟨Or.inr rfl, Or.inr rfl, Or.inr rfl, Or.inr rfl, Or.inr rfl, Or.inr rfl, Or.inr rfl, Or.inl rfl, Or.inl rfl, trivial⟩ w
        · rw [if_neg c] at w
          refine w_iload dX1_workedOut_123 rfl ?_
          refine w_goto (tgt := 163) dX1_workedOut_125 rfl ?_
          obtain ⟨e2, w⟩ := w
          refine w_callV (As := [.int l5, .int r3]) (st := []) dX1_workedOut_163 mt_X6_set g_734 g_667 g_668 rfl e2 rfl rfl (Nat.le_of_ble_eq_true rfl) (Nat.le_refl _) ⟨Nat.le_refl _, Nat.le_refl _⟩ w ?_
          rintro v h20 ⟨rfl, w⟩
          refine v_iinc (l' := [.ref l0, .int l1, .int l2, .int l3, .int l4, .int (l5 + 1), .int l6, .int r3, .int r5]) (v := l5 + 1) dX1_workedOut_166 rfl rfl (Nat.le_of_ble_eq_true rfl) rfl ?_
          refine v_iinc (l' := [.ref l0, .int l1, .int l2, .int l3, .int l4, .int (l5 + 1), .int (l6 + 1), .int r3, .int r5]) (v := l6 + 1) dX1_workedOut_169 rfl rfl (Nat.le_of_ble_eq_true rfl) rfl ?_
          refine w_goto (tgt := 6) dX1_workedOut_172 rfl ?_
          exact w_drop (l' := [.ref l0, .int l1, .int l2, .int l3, .int l4, .int (l5 + 1), .int (l6 + 1), .null, .null]) ⟨Or.inr rfl, Or.inr rfl, Or.inr rfl, Or.inr rfl, Or.inr rfl, Or.inr rfl, Or.inr rfl, Or.inl rfl, Or.inl rfl, trivial⟩ w
      · rw [if_neg c] at w
        refine v_iinc (l' := [.ref l0, .int l1, .int l2, .int l3, .int l4, .int (l5 + (-1)), .int l6, .int r3, .int r5]) (v := l5 + (-1)) dX1_workedOut_77 rfl rfl (Nat.le_of_ble_eq_true rfl) rfl ?_
        refine w_aload_n dX1_workedOut_80 rfl ?_
        obtain ⟨e1, w⟩ := w
        refine w_getp dX1_workedOut_81 lk_RX1_22 e1 rfl ?_
        refine w_iload dX1_workedOut_84 rfl ?_
        refine w_iconst (v := 1) dX1_workedOut_86 rfl ?_
        refine w_isub dX1_workedOut_87 ?_
        refine w_iload dX1_workedOut_88 rfl ?_
        refine w_aload_n dX1_workedOut_90 rfl ?_
        refine w_getp dX1_workedOut_91 lk_RX1_22 e1 rfl ?_
        refine w_iload dX1_workedOut_94 rfl ?_
        refine w_iconst (v := 1) dX1_workedOut_96 rfl ?_
        refine w_isub dX1_workedOut_97 ?_
        obtain ⟨e2, w⟩ := w
        refine w_callV (As := [.int ((l5 + (-1)) - 1)]) (st := [.int r3, .int ((l5 + (-1)) - 1), .ref (gp h6 l0 2)]) dX1_workedOut_98 mt_X6_at g_829 g_724 g_725 rfl e2 rfl rfl (Nat.le_of_ble_eq_true rfl) (Nat.le_refl _) ⟨Nat.le_refl _, Nat.le_refl _⟩ w ?_
        rintro v h22 ⟨r21, rfl, w⟩
        refine w_iload dX1_workedOut_101 rfl ?_
        refine w_callS (As := [.int r3, .int r21, .int r5]) (st := [.int ((l5 + (-1)) - 1), .ref (gp h6 l0 2)]) dX1_workedOut_103 mt_X1_joined g_830 g_831 rfl rfl (Nat.le_of_ble_eq_true rfl) (Nat.le_refl _) ⟨Nat.le_refl _, Nat.le_refl _⟩ w ?_
        rintro v h24 ⟨r23, rfl, w⟩
        obtain ⟨e1, w⟩ := w
        refine w_callV (As := [.int ((l5 + (-1)) - 1), .int r23]) (st := []) dX1_workedOut_106 mt_X6_set g_734 g_667 g_668 rfl e1 rfl rfl (Nat.le_of_ble_eq_true rfl) (Nat.le_refl _) ⟨Nat.le_refl _, Nat.le_refl _⟩ w ?_
        rintro v h26 ⟨rfl, w⟩
        refine w_goto (tgt := 169) dX1_workedOut_109 rfl ?_
        refine v_iinc (l' := [.ref l0, .int l1, .int l2, .int l3, .int l4, .int (l5 + (-1)), .int (l6 + 1), .int r3, .int r5]) (v := l6 + 1) dX1_workedOut_169 rfl rfl (Nat.le_of_ble_eq_true rfl) rfl ?_
        refine w_goto (tgt := 6) dX1_workedOut_172 rfl ?_
        exact w_drop (l' := [.ref l0, .int l1, .int l2, .int l3, .int l4, .int (l5 + (-1)), .int (l6 + 1), .null, .null]) ⟨Or.inr rfl, Or.inr rfl, Or.inr rfl, Or.inr rfl, Or.inr rfl, Or.inr rfl, Or.inr rfl, Or.inl rfl, Or.inl rfl, trivial⟩ w
    · rw [if_pos c] at w
      refine w_aload_n dX1_workedOut_46 rfl ?_
      obtain ⟨e1, w⟩ := w
      refine w_getp dX1_workedOut_47 lk_RX1_22 e1 rfl ?_
      refine w_iload dX1_workedOut_50 rfl ?_
      refine w_iconst (v := 1) dX1_workedOut_52 rfl ?_
      refine w_isub dX1_workedOut_53 ?_
      refine w_iload dX1_workedOut_54 rfl ?_
      refine w_if_ne (tgt := 63) dX1_workedOut_56 rfl (fun c => ?_) (fun c => ?_)
      · rw [if_neg c] at w
        refine w_iconst (v := 0) dX1_workedOut_63 rfl ?_
        obtain ⟨e2, w⟩ := w
        refine w_callV (As := [.int (l5 - 1), .int 0]) (st := []) dX1_workedOut_64 mt_X6_set g_734 g_667 g_668 rfl e2 rfl rfl (Nat.le_of_ble_eq_true rfl) (Nat.le_refl _) ⟨Nat.le_refl _, Nat.le_refl _⟩ w ?_
        rintro v h10 ⟨rfl, w⟩
        refine w_goto (tgt := 169) dX1_workedOut_67 rfl ?_
        refine v_iinc (l' := [.ref l0, .int l1, .int l2, .int l3, .int l4, .int l5, .int (l6 + 1), .int r3, .int r5]) (v := l6 + 1) dX1_workedOut_169 rfl rfl (Nat.le_of_ble_eq_true rfl) rfl ?_
        refine w_goto (tgt := 6) dX1_workedOut_172 rfl ?_
        exact w_drop (l' := [.ref l0, .int l1, .int l2, .int l3, .int l4, .int l5, .int (l6 + 1), .null, .null]) ⟨Or.inr rfl, Or.inr rfl, Or.inr rfl, Or.inr rfl, Or.inr rfl, Or.inr rfl, Or.inr rfl, Or.inl rfl, Or.inl rfl, trivial⟩ w
      · rw [if_pos c] at w
        refine w_iconst (v := 1) dX1_workedOut_59 rfl ?_
        refine w_goto (tgt := 64) dX1_workedOut_60 rfl ?_
        obtain ⟨e2, w⟩ := w
        refine w_callV (As := [.int (l5 - 1), .int 1]) (st := []) dX1_workedOut_64 mt_X6_set g_734 g_667 g_668 rfl e2 rfl rfl (Nat.le_of_ble_eq_true rfl) (Nat.le_refl _) ⟨Nat.le_refl _, Nat.le_refl _⟩ w ?_
        rintro v h8 ⟨rfl, w⟩
        refine w_goto (tgt := 169) dX1_workedOut_67 rfl ?_
        refine v_iinc (l' := [.ref l0, .int l1, .int l2, .int l3, .int l4, .int l5, .int (l6 + 1), .int r3, .int r5]) (v := l6 + 1) dX1_workedOut_169 rfl rfl (Nat.le_of_ble_eq_true rfl) rfl ?_
        refine w_goto (tgt := 6) dX1_workedOut_172 rfl ?_
        exact w_drop (l' := [.ref l0, .int l1, .int l2, .int l3, .int l4, .int l5, .int (l6 + 1), .null, .null]) ⟨Or.inr rfl, Or.inr rfl, Or.inr rfl, Or.inr rfl, Or.inr rfl, Or.inr rfl, Or.inr rfl, Or.inl rfl, Or.inl rfl, trivial⟩ w
set_option maxRecDepth 20000 in
set_option maxHeartbeats 4000000 in
theorem x_X1_joined {G : pm_G} {d : Nat} {post : pm_PT} {h : pm_H} {l0 : Int32} {l1 : Int32} {l2 : Int32} (w :
    if l0 = (-13) then (
      post (some (.int (l1 - l2))) h
    ) else (
    if l0 = (-12) then (
      post (some (.int (l1 + l2))) h
    ) else (
    if l0 = (-11) then (
      if l1 = l2 then (
        post (some (.int 1)) h
      ) else (
        post (some (.int 0)) h
      )
    ) else (
    if l0 = (-10) then (
      if l2 ≤ l1 then (
        post (some (.int 0)) h
      ) else (
        post (some (.int 1)) h
      )
    ) else (
    if l0 = (-9) then (
      if l1 = 0 then (
        if l2 = 0 then (
          post (some (.int 0)) h
        ) else (
          post (some (.int 1)) h
        )
      ) else (
        post (some (.int 1)) h
      )
    ) else (
    if l0 = (-8) then (
      if l1 = 0 then (
        post (some (.int 0)) h
      ) else (
        if l2 = 0 then (
          post (some (.int 0)) h
        ) else (
          post (some (.int 1)) h
        )
      )
    ) else (
    post (some (.int (l1 * l2))) h
    ))))))) :
    Wp G (m_X1_joined, d + 1, 0, 0, post) (0, 0) 0 [.int l0, .int l1, .int l2] [] h := by
  refine w_iload_n dX1_joined_0 rfl ?_
  have sw : (l0 : Int32).toInt < -13 ∨ -8 < (l0 : Int32).toInt ∨ (l0 : Int32).toInt = -13 ∨ (l0 : Int32).toInt = -12 ∨ (l0 : Int32).toInt = -11 ∨ (l0 : Int32).toInt = -10 ∨ (l0 : Int32).toInt = -9 ∨ (l0 : Int32).toInt = -8 := by omega
  rcases sw with sw | sw | sw | sw | sw | sw | sw | sw
  · refine w_tsw (tgt := 98) dX1_joined_1 (by rw [if_pos (by first | exact Or.inl sw | exact Or.inr sw)]; rfl) (by first | exact Or.inl sw | exact Or.inr (Or.inl sw)) ?_
    rw [if_neg (fun q => by rw [q] at sw; revert sw; decide)] at w
    rw [if_neg (fun q => by rw [q] at sw; revert sw; decide)] at w
    rw [if_neg (fun q => by rw [q] at sw; revert sw; decide)] at w
    rw [if_neg (fun q => by rw [q] at sw; revert sw; decide)] at w
    rw [if_neg (fun q => by rw [q] at sw; revert sw; decide)] at w
    rw [if_neg (fun q => by rw [q] at sw; revert sw; decide)] at w
    refine w_iload_n dX1_joined_98 rfl ?_
    refine w_iload_n dX1_joined_99 rfl ?_
    refine w_imul dX1_joined_100 ?_
    exact w_ireturn dX1_joined_101 rfl rfl ⟨Nat.le_refl _, Nat.le_refl _⟩ w
  · refine w_tsw (tgt := 98) dX1_joined_1 (by rw [if_pos (by first | exact Or.inl sw | exact Or.inr sw)]; rfl) (by first | exact Or.inl sw | exact Or.inr (Or.inl sw)) ?_
    rw [if_neg (fun q => by rw [q] at sw; revert sw; decide)] at w
    rw [if_neg (fun q => by rw [q] at sw; revert sw; decide)] at w
    rw [if_neg (fun q => by rw [q] at sw; revert sw; decide)] at w
    rw [if_neg (fun q => by rw [q] at sw; revert sw; decide)] at w
    rw [if_neg (fun q => by rw [q] at sw; revert sw; decide)] at w
    rw [if_neg (fun q => by rw [q] at sw; revert sw; decide)] at w
    refine w_iload_n dX1_joined_98 rfl ?_
    refine w_iload_n dX1_joined_99 rfl ?_
    refine w_imul dX1_joined_100 ?_
    exact w_ireturn dX1_joined_101 rfl rfl ⟨Nat.le_refl _, Nat.le_refl _⟩ w
  · have sv : (l0 : Int32) = (-13) := Int32.toInt_inj.mp (sw.trans (by decide))
    refine w_tsw (tgt := 94) dX1_joined_1 (by rw [sw]; rfl) (by rw [sw]; decide) ?_
    rw [if_pos sv] at w
    refine w_iload_n dX1_joined_94 rfl ?_
    refine w_iload_n dX1_joined_95 rfl ?_
    refine w_isub dX1_joined_96 ?_
    exact w_ireturn dX1_joined_97 rfl rfl ⟨Nat.le_refl _, Nat.le_refl _⟩ w
  · have sv : (l0 : Int32) = (-12) := Int32.toInt_inj.mp (sw.trans (by decide))
    refine w_tsw (tgt := 90) dX1_joined_1 (by rw [sw]; rfl) (by rw [sw]; decide) ?_
    rw [if_neg (fun q => by rw [q] at sw; revert sw; decide)] at w
    rw [if_pos sv] at w
    refine w_iload_n dX1_joined_90 rfl ?_
    refine w_iload_n dX1_joined_91 rfl ?_
    refine w_iadd dX1_joined_92 ?_
    exact w_ireturn dX1_joined_93 rfl rfl ⟨Nat.le_refl _, Nat.le_refl _⟩ w
  · have sv : (l0 : Int32) = (-11) := Int32.toInt_inj.mp (sw.trans (by decide))
    refine w_tsw (tgt := 79) dX1_joined_1 (by rw [sw]; rfl) (by rw [sw]; decide) ?_
    rw [if_neg (fun q => by rw [q] at sw; revert sw; decide)] at w
    rw [if_neg (fun q => by rw [q] at sw; revert sw; decide)] at w
    rw [if_pos sv] at w
    refine w_iload_n dX1_joined_79 rfl ?_
    refine w_iload_n dX1_joined_80 rfl ?_
    refine w_ic_ne (tgt := 88) dX1_joined_81 rfl (fun c => ?_) (fun c => ?_)
    · rw [if_neg c] at w
      refine w_iconst (v := 0) dX1_joined_88 rfl ?_
      exact w_ireturn dX1_joined_89 rfl rfl ⟨Nat.le_refl _, Nat.le_refl _⟩ w
    · rw [if_pos c] at w
      refine w_iconst (v := 1) dX1_joined_84 rfl ?_
      refine w_goto (tgt := 89) dX1_joined_85 rfl ?_
      exact w_ireturn dX1_joined_89 rfl rfl ⟨Nat.le_refl _, Nat.le_refl _⟩ w
  · have sv : (l0 : Int32) = (-10) := Int32.toInt_inj.mp (sw.trans (by decide))
    refine w_tsw (tgt := 68) dX1_joined_1 (by rw [sw]; rfl) (by rw [sw]; decide) ?_
    rw [if_neg (fun q => by rw [q] at sw; revert sw; decide)] at w
    rw [if_neg (fun q => by rw [q] at sw; revert sw; decide)] at w
    rw [if_neg (fun q => by rw [q] at sw; revert sw; decide)] at w
    rw [if_pos sv] at w
    refine w_iload_n dX1_joined_68 rfl ?_
    refine w_iload_n dX1_joined_69 rfl ?_
    refine w_ic_ge (tgt := 77) dX1_joined_70 rfl (fun c => ?_) (fun c => ?_)
    · rw [if_pos c] at w
      refine w_iconst (v := 0) dX1_joined_77 rfl ?_
      exact w_ireturn dX1_joined_78 rfl rfl ⟨Nat.le_refl _, Nat.le_refl _⟩ w
    · rw [if_neg c] at w
      refine w_iconst (v := 1) dX1_joined_73 rfl ?_
      refine w_goto (tgt := 78) dX1_joined_74 rfl ?_
      exact w_ireturn dX1_joined_78 rfl rfl ⟨Nat.le_refl _, Nat.le_refl _⟩ w
  · have sv : (l0 : Int32) = (-9) := Int32.toInt_inj.mp (sw.trans (by decide))
    refine w_tsw (tgt := 54) dX1_joined_1 (by rw [sw]; rfl) (by rw [sw]; decide) ?_
    rw [if_neg (fun q => by rw [q] at sw; revert sw; decide)] at w
    rw [if_neg (fun q => by rw [q] at sw; revert sw; decide)] at w
    rw [if_neg (fun q => by rw [q] at sw; revert sw; decide)] at w
    rw [if_neg (fun q => by rw [q] at sw; revert sw; decide)] at w
    rw [if_pos sv] at w
    refine w_iload_n dX1_joined_54 rfl ?_
    refine w_if_ne (tgt := 62) dX1_joined_55 rfl (fun c => ?_) (fun c => ?_)
    · rw [if_neg c] at w
      refine w_iconst (v := 1) dX1_joined_62 rfl ?_
      refine w_goto (tgt := 67) dX1_joined_63 rfl ?_
      exact w_ireturn dX1_joined_67 rfl rfl ⟨Nat.le_refl _, Nat.le_refl _⟩ w
    · rw [if_pos c] at w
      refine w_iload_n dX1_joined_58 rfl ?_
      refine w_if_eq (tgt := 66) dX1_joined_59 rfl (fun c => ?_) (fun c => ?_)
      · rw [if_pos c] at w
        refine w_iconst (v := 0) dX1_joined_66 rfl ?_
        exact w_ireturn dX1_joined_67 rfl rfl ⟨Nat.le_refl _, Nat.le_refl _⟩ w
      · rw [if_neg c] at w
        refine w_iconst (v := 1) dX1_joined_62 rfl ?_
        refine w_goto (tgt := 67) dX1_joined_63 rfl ?_
        exact w_ireturn dX1_joined_67 rfl rfl ⟨Nat.le_refl _, Nat.le_refl _⟩ w
  · have sv : (l0 : Int32) = (-8) := Int32.toInt_inj.mp (sw.trans (by decide))
    refine w_tsw (tgt := 40) dX1_joined_1 (by rw [sw]; rfl) (by rw [sw]; decide) ?_
    rw [if_neg (fun q => by rw [q] at sw; revert sw; decide)] at w
    rw [if_neg (fun q => by rw [q] at sw; revert sw; decide)] at w
    rw [if_neg (fun q => by rw [q] at sw; revert sw; decide)] at w
    rw [if_neg (fun q => by rw [q] at sw; revert sw; decide)] at w
    rw [if_neg (fun q => by rw [q] at sw; revert sw; decide)] at w
    rw [if_pos sv] at w
    refine w_iload_n dX1_joined_40 rfl ?_
    refine w_if_eq (tgt := 52) dX1_joined_41 rfl (fun c => ?_) (fun c => ?_)
    · rw [if_pos c] at w
      refine w_iconst (v := 0) dX1_joined_52 rfl ?_
      exact w_ireturn dX1_joined_53 rfl rfl ⟨Nat.le_refl _, Nat.le_refl _⟩ w
    · rw [if_neg c] at w
      refine w_iload_n dX1_joined_44 rfl ?_
      refine w_if_eq (tgt := 52) dX1_joined_45 rfl (fun c => ?_) (fun c => ?_)
      · rw [if_pos c] at w
        refine w_iconst (v := 0) dX1_joined_52 rfl ?_
        exact w_ireturn dX1_joined_53 rfl rfl ⟨Nat.le_refl _, Nat.le_refl _⟩ w
      · rw [if_neg c] at w
        refine w_iconst (v := 1) dX1_joined_48 rfl ?_
        refine w_goto (tgt := 53) dX1_joined_49 rfl ?_
        exact w_ireturn dX1_joined_53 rfl rfl ⟨Nat.le_refl _, Nat.le_refl _⟩ w
set_option maxRecDepth 20000 in
set_option maxHeartbeats 4000000 in
theorem x_X3_add {G : pm_G} {d : Nat} {post : pm_PT} {h : pm_H} {l0 : Nat} {l1 : Int64} (w :
    (h.1[l0]? = some (0, 3)) ∧
    if (gi h l0 1) < 0 then (
      post none h
    ) else (
      ∃ n1 : Nat, h.1[gp h l0 0]? = some (2, n1) ∧
      if (Int32.ofNat n1) ≤ (gi h l0 1) then (
        post none h
      ) else (
        (vp_in (gi h l0 1) n1) ∧
        ∀ h2 : pm_H, h2 = sl h (gp h l0 0) (gi h l0 1 : Int32).toNatClampNeg l1 →
        ∀ h3 : pm_H, h3 = si h2 l0 1 ((gi h2 l0 1) + 1) →
        post none h3
      )
    )) :
    Wp G (m_X3_add, d + 1, 0, 0, post) (0, 0) 0 [.ref l0, .long l1, .null] [] h := by
  refine w_aload_n dX3_add_0 rfl ?_
  obtain ⟨e1, w⟩ := w
  refine w_geti dX3_add_1 lk_RX3_9 e1 rfl ?_
  refine w_if_lt (tgt := 39) dX3_add_4 rfl (fun c => ?_) (fun c => ?_)
  · rw [if_pos c] at w
    exact w_return dX3_add_39 rfl ⟨Nat.le_refl _, Nat.le_refl _⟩ w
  · rw [if_neg c] at w
    refine w_aload_n dX3_add_7 rfl ?_
    refine w_geti dX3_add_8 lk_RX3_9 e1 rfl ?_
    refine w_aload_n dX3_add_11 rfl ?_
    refine w_getp dX3_add_12 lk_RX3_15 e1 rfl ?_
    obtain ⟨n1, ln1, w⟩ := w
    refine w_alen dX3_add_15 ln1 (by decide) rfl ?_
    refine w_ic_ge (tgt := 39) dX3_add_16 rfl (fun c => ?_) (fun c => ?_)
    · rw [if_pos c] at w
      exact w_return dX3_add_39 rfl ⟨Nat.le_refl _, Nat.le_refl _⟩ w
    · rw [if_neg c] at w
      refine w_aload_n dX3_add_19 rfl ?_
      refine w_getp dX3_add_20 lk_RX3_15 e1 rfl ?_
      refine w_aload_n dX3_add_23 rfl ?_
      refine w_geti dX3_add_24 lk_RX3_9 e1 rfl ?_
      refine w_lload_n dX3_add_27 rfl ?_
      obtain ⟨e3, w⟩ := w
      refine w_last dX3_add_28 ln1 e3 ?_
      have w := w _ rfl
      refine w_aload_n dX3_add_29 rfl ?_
      refine w_dup dX3_add_30 rfl ?_
      refine w_geti dX3_add_31 lk_RX3_9 e1 rfl ?_
      refine w_iconst (v := 1) dX3_add_34 rfl ?_
      refine w_iadd dX3_add_35 ?_
      refine w_puti dX3_add_36 lk_RX3_9 e1 rfl (Or.inl rfl) ?_
      have w := w _ rfl
      exact w_return dX3_add_39 rfl ⟨Nat.le_refl _, Nat.le_refl _⟩ w
set_option maxRecDepth 20000 in
set_option maxHeartbeats 4000000 in
theorem x_X3_find {G : pm_G} {d : Nat} {post : pm_PT} {h : pm_H} {l0 : Nat} {l1 : Int64} (w :
    Wp G (m_X3_find, d + 1, 0, 0, post) (0, 0) 2 [.ref l0, .long l1, .null, .int 0] [] h) :
    Wp G (m_X3_find, d + 1, 0, 0, post) (0, 0) 0 [.ref l0, .long l1, .null, .null] [] h := by
  refine w_iconst (v := 0) dX3_find_0 rfl ?_
  refine v_istore_n (l' := [.ref l0, .long l1, .null, .int 0]) dX3_find_1 (Nat.le_of_ble_eq_true rfl) rfl ?_
  exact w
set_option maxRecDepth 20000 in
set_option maxHeartbeats 4000000 in
theorem x_X3_find_2 {G : pm_G} {d : Nat} {post : pm_PT} {h : pm_H} {l0 : Nat} {l1 : Int64} {l3 : Int32} (w :
    (h.1[l0]? = some (0, 3)) ∧
    if (gi h l0 1) ≤ l3 then (
      post (some (.int (-1))) h
    ) else (
      ∃ n1 : Nat, h.1[gp h l0 0]? = some (2, n1) ∧
      if (Int32.ofNat n1) ≤ l3 then (
        post (some (.int (-1))) h
      ) else (
        (vp_in l3 n1) ∧
        if (lg_cmp (gj h (gp h l0 0) (l3 : Int32).toNatClampNeg) l1) = 0 then (
          post (some (.int l3)) h
        ) else (
          Wp G (m_X3_find, d + 1, 0, 0, post) (0, 0) 2 [.ref l0, .long l1, .null, .int (l3 + 1)] [] h
        )
      )
    )) :
    Wp G (m_X3_find, d + 1, 0, 0, post) (0, 0) 2 [.ref l0, .long l1, .null, .int l3] [] h := by
  refine w_iload_n dX3_find_2 rfl ?_
  refine w_aload_n dX3_find_3 rfl ?_
  obtain ⟨e1, w⟩ := w
  refine w_geti dX3_find_4 lk_RX3_9 e1 rfl ?_
  refine w_ic_ge (tgt := 38) dX3_find_7 rfl (fun c => ?_) (fun c => ?_)
  · rw [if_pos c] at w
    refine w_iconst (v := (-1)) dX3_find_38 rfl ?_
    exact w_ireturn dX3_find_39 rfl rfl ⟨Nat.le_refl _, Nat.le_refl _⟩ w
  · rw [if_neg c] at w
    refine w_iload_n dX3_find_10 rfl ?_
    refine w_aload_n dX3_find_11 rfl ?_
    refine w_getp dX3_find_12 lk_RX3_15 e1 rfl ?_
    obtain ⟨n1, ln1, w⟩ := w
    refine w_alen dX3_find_15 ln1 (by decide) rfl ?_
    refine w_ic_ge (tgt := 38) dX3_find_16 rfl (fun c => ?_) (fun c => ?_)
    · rw [if_pos c] at w
      refine w_iconst (v := (-1)) dX3_find_38 rfl ?_
      exact w_ireturn dX3_find_39 rfl rfl ⟨Nat.le_refl _, Nat.le_refl _⟩ w
    · rw [if_neg c] at w
      refine w_aload_n dX3_find_19 rfl ?_
      refine w_getp dX3_find_20 lk_RX3_15 e1 rfl ?_
      refine w_iload_n dX3_find_23 rfl ?_
      obtain ⟨e3, w⟩ := w
      refine w_lald dX3_find_24 ln1 e3 ?_
      refine w_lload_n dX3_find_25 rfl ?_
      refine w_lcmp dX3_find_26 ?_
      refine w_if_ne (tgt := 32) dX3_find_27 rfl (fun c => ?_) (fun c => ?_)
      · rw [if_neg c] at w
        refine v_iinc (l' := [.ref l0, .long l1, .null, .int (l3 + 1)]) (v := l3 + 1) dX3_find_32 rfl rfl (Nat.le_of_ble_eq_true rfl) rfl ?_
        refine w_goto (tgt := 2) dX3_find_35 rfl ?_
        exact w
      · rw [if_pos c] at w
        refine w_iload_n dX3_find_30 rfl ?_
        exact w_ireturn dX3_find_31 rfl rfl ⟨Nat.le_refl _, Nat.le_refl _⟩ w
set_option maxRecDepth 20000 in
set_option maxHeartbeats 4000000 in
theorem x_X3_copyFrom {G : pm_G} {d : Nat} {post : pm_PT} {h : pm_H} {l0 : Nat} {l1 : Nat} (w :
    (h.1[l0]? = some (0, 3)) ∧
    ∀ h1 : pm_H, h1 = si h l0 1 0 →
    Wp G (m_X3_copyFrom, d + 1, 0, 0, post) (0, 0) 7 [.ref l0, .ref l1, .int 0] [] h1) :
    Wp G (m_X3_copyFrom, d + 1, 0, 0, post) (0, 0) 0 [.ref l0, .ref l1, .null] [] h := by
  refine w_aload_n dX3_copyFrom_0 rfl ?_
  refine w_iconst (v := 0) dX3_copyFrom_1 rfl ?_
  obtain ⟨e1, w⟩ := w
  refine w_puti dX3_copyFrom_2 lk_RX3_9 e1 rfl (Or.inl rfl) ?_
  have w := w _ rfl
  refine w_iconst (v := 0) dX3_copyFrom_5 rfl ?_
  refine v_istore_n (l' := [.ref l0, .ref l1, .int 0]) dX3_copyFrom_6 (Nat.le_of_ble_eq_true rfl) rfl ?_
  exact w
set_option maxRecDepth 20000 in
set_option maxHeartbeats 4000000 in
theorem x_X3_copyFrom_7 {G : pm_G} {d : Nat} {post : pm_PT} {h : pm_H} {l0 : Nat} {l1 : Nat} {l2 : Int32} (w :
    (h.1[l1]? = some (0, 3)) ∧
    if (gi h l1 1) ≤ l2 then (
      post none h
    ) else (
      ∃ n1 : Nat, h.1[gp h l1 0]? = some (2, n1) ∧
      if (Int32.ofNat n1) ≤ l2 then (
        post none h
      ) else (
        (vp_in l2 n1) ∧
        (h.1[l0]? = some (0, 3)) ∧
        cv G d m_X3_add [.ref l0, .long (gj h (gp h l1 0) (l2 : Int32).toNatClampNeg)] h fun h3 =>
        Wp G (m_X3_copyFrom, d + 1, 0, 0, post) (0, 0) 7 [.ref l0, .ref l1, .int (l2 + 1)] [] h3
      )
    )) :
    Wp G (m_X3_copyFrom, d + 1, 0, 0, post) (0, 0) 7 [.ref l0, .ref l1, .int l2] [] h := by
  refine w_iload_n dX3_copyFrom_7 rfl ?_
  refine w_aload_n dX3_copyFrom_8 rfl ?_
  obtain ⟨e1, w⟩ := w
  refine w_geti dX3_copyFrom_9 lk_RX3_9 e1 rfl ?_
  refine w_ic_ge (tgt := 40) dX3_copyFrom_12 rfl (fun c => ?_) (fun c => ?_)
  · rw [if_pos c] at w
    exact w_return dX3_copyFrom_40 rfl ⟨Nat.le_refl _, Nat.le_refl _⟩ w
  · rw [if_neg c] at w
    refine w_iload_n dX3_copyFrom_15 rfl ?_
    refine w_aload_n dX3_copyFrom_16 rfl ?_
    refine w_getp dX3_copyFrom_17 lk_RX3_15 e1 rfl ?_
    obtain ⟨n1, ln1, w⟩ := w
    refine w_alen dX3_copyFrom_20 ln1 (by decide) rfl ?_
    refine w_ic_ge (tgt := 40) dX3_copyFrom_21 rfl (fun c => ?_) (fun c => ?_)
    · rw [if_pos c] at w
      exact w_return dX3_copyFrom_40 rfl ⟨Nat.le_refl _, Nat.le_refl _⟩ w
    · rw [if_neg c] at w
      refine w_aload_n dX3_copyFrom_24 rfl ?_
      refine w_aload_n dX3_copyFrom_25 rfl ?_
      refine w_getp dX3_copyFrom_26 lk_RX3_15 e1 rfl ?_
      refine w_iload_n dX3_copyFrom_29 rfl ?_
      obtain ⟨e3, w⟩ := w
      refine w_lald dX3_copyFrom_30 ln1 e3 ?_
      obtain ⟨e4, w⟩ := w
      refine w_callV (As := [.long (gj h (gp h l1 0) (l2 : Int32).toNatClampNeg)]) (st := []) dX3_copyFrom_31 mt_X3_add g_774 g_649 g_650 rfl e4 rfl rfl (Nat.le_of_ble_eq_true rfl) (Nat.le_refl _) ⟨Nat.le_refl _, Nat.le_refl _⟩ w ?_
      rintro v h3 ⟨rfl, w⟩
      refine v_iinc (l' := [.ref l0, .ref l1, .int (l2 + 1)]) (v := l2 + 1) dX3_copyFrom_34 rfl rfl (Nat.le_of_ble_eq_true rfl) rfl ?_
      refine w_goto (tgt := 7) dX3_copyFrom_37 rfl ?_
      exact w
set_option maxRecDepth 20000 in
set_option maxHeartbeats 4000000 in
theorem x_X6_at {G : pm_G} {d : Nat} {post : pm_PT} {h : pm_H} {l0 : Nat} {l1 : Int32} (w :
    if l1 < 0 then (
      post (some (.int (-1))) h
    ) else (
      (h.1[l0]? = some (0, 6)) ∧
      ∃ n1 : Nat, h.1[gp h l0 0]? = some (1, n1) ∧
      if (Int32.ofNat n1) ≤ l1 then (
        post (some (.int (-1))) h
      ) else (
        (vp_in l1 n1) ∧
        post (some (.int (gi h (gp h l0 0) (l1 : Int32).toNatClampNeg))) h
      )
    )) :
    Wp G (m_X6_at, d + 1, 0, 0, post) (0, 0) 0 [.ref l0, .int l1] [] h := by
  refine w_iload_n dX6_at_0 rfl ?_
  refine w_if_lt (tgt := 22) dX6_at_1 rfl (fun c => ?_) (fun c => ?_)
  · rw [if_pos c] at w
    refine w_iconst (v := (-1)) dX6_at_22 rfl ?_
    exact w_ireturn dX6_at_23 rfl rfl ⟨Nat.le_refl _, Nat.le_refl _⟩ w
  · rw [if_neg c] at w
    refine w_iload_n dX6_at_4 rfl ?_
    refine w_aload_n dX6_at_5 rfl ?_
    obtain ⟨e1, w⟩ := w
    refine w_getp dX6_at_6 lk_RX6_9 e1 rfl ?_
    obtain ⟨n1, ln1, w⟩ := w
    refine w_alen dX6_at_9 ln1 (by decide) rfl ?_
    refine w_ic_ge (tgt := 22) dX6_at_10 rfl (fun c => ?_) (fun c => ?_)
    · rw [if_pos c] at w
      refine w_iconst (v := (-1)) dX6_at_22 rfl ?_
      exact w_ireturn dX6_at_23 rfl rfl ⟨Nat.le_refl _, Nat.le_refl _⟩ w
    · rw [if_neg c] at w
      refine w_aload_n dX6_at_13 rfl ?_
      refine w_getp dX6_at_14 lk_RX6_9 e1 rfl ?_
      refine w_iload_n dX6_at_17 rfl ?_
      obtain ⟨e3, w⟩ := w
      refine w_iald dX6_at_18 ln1 e3 ?_
      refine w_goto (tgt := 23) dX6_at_19 rfl ?_
      exact w_ireturn dX6_at_23 rfl rfl ⟨Nat.le_refl _, Nat.le_refl _⟩ w
set_option maxRecDepth 20000 in
set_option maxHeartbeats 4000000 in
theorem x_X6_set {G : pm_G} {d : Nat} {post : pm_PT} {h : pm_H} {l0 : Nat} {l1 : Int32} {l2 : Int32} (w :
    if l1 < 0 then (
      post none h
    ) else (
      (h.1[l0]? = some (0, 6)) ∧
      ∃ n1 : Nat, h.1[gp h l0 0]? = some (1, n1) ∧
      if (Int32.ofNat n1) ≤ l1 then (
        post none h
      ) else (
        (vp_in l1 n1) ∧
        ∀ h2 : pm_H, h2 = si h (gp h l0 0) (l1 : Int32).toNatClampNeg l2 →
        post none h2
      )
    )) :
    Wp G (m_X6_set, d + 1, 0, 0, post) (0, 0) 0 [.ref l0, .int l1, .int l2] [] h := by
  refine w_iload_n dX6_set_0 rfl ?_
  refine w_if_lt (tgt := 20) dX6_set_1 rfl (fun c => ?_) (fun c => ?_)
  · rw [if_pos c] at w
    exact w_return dX6_set_20 rfl ⟨Nat.le_refl _, Nat.le_refl _⟩ w
  · rw [if_neg c] at w
    refine w_iload_n dX6_set_4 rfl ?_
    refine w_aload_n dX6_set_5 rfl ?_
    obtain ⟨e1, w⟩ := w
    refine w_getp dX6_set_6 lk_RX6_9 e1 rfl ?_
    obtain ⟨n1, ln1, w⟩ := w
    refine w_alen dX6_set_9 ln1 (by decide) rfl ?_
    refine w_ic_ge (tgt := 20) dX6_set_10 rfl (fun c => ?_) (fun c => ?_)
    · rw [if_pos c] at w
      exact w_return dX6_set_20 rfl ⟨Nat.le_refl _, Nat.le_refl _⟩ w
    · rw [if_neg c] at w
      refine w_aload_n dX6_set_13 rfl ?_
      refine w_getp dX6_set_14 lk_RX6_9 e1 rfl ?_
      refine w_iload_n dX6_set_17 rfl ?_
      refine w_iload_n dX6_set_18 rfl ?_
      obtain ⟨e3, w⟩ := w
      refine w_iast dX6_set_19 ln1 e3 ?_
      have w := w _ rfl
      exact w_return dX6_set_20 rfl ⟨Nat.le_refl _, Nat.le_refl _⟩ w
set_option maxRecDepth 20000 in
set_option maxHeartbeats 4000000 in
theorem x_X6_fill {G : pm_G} {d : Nat} {post : pm_PT} {h : pm_H} {l0 : Nat} {l1 : Int32} (w :
    Wp G (m_X6_fill, d + 1, 0, 0, post) (0, 0) 2 [.ref l0, .int l1, .int 0] [] h) :
    Wp G (m_X6_fill, d + 1, 0, 0, post) (0, 0) 0 [.ref l0, .int l1, .null] [] h := by
  refine w_iconst (v := 0) dX6_fill_0 rfl ?_
  refine v_istore_n (l' := [.ref l0, .int l1, .int 0]) dX6_fill_1 (Nat.le_of_ble_eq_true rfl) rfl ?_
  exact w
set_option maxRecDepth 20000 in
set_option maxHeartbeats 4000000 in
theorem x_X6_fill_2 {G : pm_G} {d : Nat} {post : pm_PT} {h : pm_H} {l0 : Nat} {l1 : Int32} {l2 : Int32} (w :
    (h.1[l0]? = some (0, 6)) ∧
    ∃ n1 : Nat, h.1[gp h l0 0]? = some (1, n1) ∧
    if (Int32.ofNat n1) ≤ l2 then (
      post none h
    ) else (
      (vp_in l2 n1) ∧
      ∀ h2 : pm_H, h2 = si h (gp h l0 0) (l2 : Int32).toNatClampNeg l1 →
      Wp G (m_X6_fill, d + 1, 0, 0, post) (0, 0) 2 [.ref l0, .int l1, .int (l2 + 1)] [] h2
    )) :
    Wp G (m_X6_fill, d + 1, 0, 0, post) (0, 0) 2 [.ref l0, .int l1, .int l2] [] h := by
  refine w_iload_n dX6_fill_2 rfl ?_
  refine w_aload_n dX6_fill_3 rfl ?_
  obtain ⟨e1, w⟩ := w
  refine w_getp dX6_fill_4 lk_RX6_9 e1 rfl ?_
  obtain ⟨n1, ln1, w⟩ := w
  refine w_alen dX6_fill_7 ln1 (by decide) rfl ?_
  refine w_ic_ge (tgt := 24) dX6_fill_8 rfl (fun c => ?_) (fun c => ?_)
  · rw [if_pos c] at w
    exact w_return dX6_fill_24 rfl ⟨Nat.le_refl _, Nat.le_refl _⟩ w
  · rw [if_neg c] at w
    refine w_aload_n dX6_fill_11 rfl ?_
    refine w_getp dX6_fill_12 lk_RX6_9 e1 rfl ?_
    refine w_iload_n dX6_fill_15 rfl ?_
    refine w_iload_n dX6_fill_16 rfl ?_
    obtain ⟨e3, w⟩ := w
    refine w_iast dX6_fill_17 ln1 e3 ?_
    have w := w _ rfl
    refine v_iinc (l' := [.ref l0, .int l1, .int (l2 + 1)]) (v := l2 + 1) dX6_fill_18 rfl rfl (Nat.le_of_ble_eq_true rfl) rfl ?_
    refine w_goto (tgt := 2) dX6_fill_21 rfl ?_
    exact w
set_option maxRecDepth 20000 in
set_option maxHeartbeats 4000000 in
theorem x_X6_copyFrom {G : pm_G} {d : Nat} {post : pm_PT} {h : pm_H} {l0 : Nat} {l1 : Nat} (w :
    Wp G (m_X6_copyFrom, d + 1, 0, 0, post) (0, 0) 2 [.ref l0, .ref l1, .int 0] [] h) :
    Wp G (m_X6_copyFrom, d + 1, 0, 0, post) (0, 0) 0 [.ref l0, .ref l1, .null] [] h := by
  refine w_iconst (v := 0) dX6_copyFrom_0 rfl ?_
  refine v_istore_n (l' := [.ref l0, .ref l1, .int 0]) dX6_copyFrom_1 (Nat.le_of_ble_eq_true rfl) rfl ?_
  exact w
set_option maxRecDepth 20000 in
set_option maxHeartbeats 4000000 in
theorem x_X6_copyFrom_2 {G : pm_G} {d : Nat} {post : pm_PT} {h : pm_H} {l0 : Nat} {l1 : Nat} {l2 : Int32} (w :
    (h.1[l0]? = some (0, 6)) ∧
    ∃ n1 : Nat, h.1[gp h l0 0]? = some (1, n1) ∧
    if (Int32.ofNat n1) ≤ l2 then (
      post none h
    ) else (
      (h.1[l1]? = some (0, 6)) ∧
      ∃ n2 : Nat, h.1[gp h l1 0]? = some (1, n2) ∧
      if (Int32.ofNat n2) ≤ l2 then (
        post none h
      ) else (
        (vp_in l2 n2) ∧
        (vp_in l2 n1) ∧
        ∀ h3 : pm_H, h3 = si h (gp h l0 0) (l2 : Int32).toNatClampNeg (gi h (gp h l1 0) (l2 : Int32).toNatClampNeg) →
        Wp G (m_X6_copyFrom, d + 1, 0, 0, post) (0, 0) 2 [.ref l0, .ref l1, .int (l2 + 1)] [] h3
      )
    )) :
    Wp G (m_X6_copyFrom, d + 1, 0, 0, post) (0, 0) 2 [.ref l0, .ref l1, .int l2] [] h := by
  refine w_iload_n dX6_copyFrom_2 rfl ?_
  refine w_aload_n dX6_copyFrom_3 rfl ?_
  obtain ⟨e1, w⟩ := w
  refine w_getp dX6_copyFrom_4 lk_RX6_9 e1 rfl ?_
  obtain ⟨n1, ln1, w⟩ := w
  refine w_alen dX6_copyFrom_7 ln1 (by decide) rfl ?_
  refine w_ic_ge (tgt := 38) dX6_copyFrom_8 rfl (fun c => ?_) (fun c => ?_)
  · rw [if_pos c] at w
    exact w_return dX6_copyFrom_38 rfl ⟨Nat.le_refl _, Nat.le_refl _⟩ w
  · rw [if_neg c] at w
    refine w_iload_n dX6_copyFrom_11 rfl ?_
    refine w_aload_n dX6_copyFrom_12 rfl ?_
    obtain ⟨e3, w⟩ := w
    refine w_getp dX6_copyFrom_13 lk_RX6_9 e3 rfl ?_
    obtain ⟨n2, ln2, w⟩ := w
    refine w_alen dX6_copyFrom_16 ln2 (by decide) rfl ?_
    refine w_ic_ge (tgt := 38) dX6_copyFrom_17 rfl (fun c => ?_) (fun c => ?_)
    · rw [if_pos c] at w
      exact w_return dX6_copyFrom_38 rfl ⟨Nat.le_refl _, Nat.le_refl _⟩ w
    · rw [if_neg c] at w
      refine w_aload_n dX6_copyFrom_20 rfl ?_
      refine w_getp dX6_copyFrom_21 lk_RX6_9 e1 rfl ?_
      refine w_iload_n dX6_copyFrom_24 rfl ?_
      refine w_aload_n dX6_copyFrom_25 rfl ?_
      refine w_getp dX6_copyFrom_26 lk_RX6_9 e3 rfl ?_
      refine w_iload_n dX6_copyFrom_29 rfl ?_
      obtain ⟨e5, w⟩ := w
      refine w_iald dX6_copyFrom_30 ln2 e5 ?_
      obtain ⟨e6, w⟩ := w
      refine w_iast dX6_copyFrom_31 ln1 e6 ?_
      have w := w _ rfl
      refine v_iinc (l' := [.ref l0, .ref l1, .int (l2 + 1)]) (v := l2 + 1) dX6_copyFrom_32 rfl rfl (Nat.le_of_ble_eq_true rfl) rfl ?_
      refine w_goto (tgt := 2) dX6_copyFrom_35 rfl ?_
      exact w
set_option maxRecDepth 20000 in
set_option maxHeartbeats 4000000 in
theorem x_X6_copyPart {G : pm_G} {d : Nat} {post : pm_PT} {h : pm_H} {l0 : Nat} {l1 : Int32} {l2 : Nat} {l3 : Int32} {l4 : Int32} (w :
    Wp G (m_X6_copyPart, d + 1, 0, 0, post) (0, 0) 3 [.ref l0, .int l1, .ref l2, .int l3, .int l4, .int 0] [] h) :
    Wp G (m_X6_copyPart, d + 1, 0, 0, post) (0, 0) 0 [.ref l0, .int l1, .ref l2, .int l3, .int l4, .null] [] h := by
  refine w_iconst (v := 0) dX6_copyPart_0 rfl ?_
  refine v_istore (l' := [.ref l0, .int l1, .ref l2, .int l3, .int l4, .int 0]) dX6_copyPart_1 (Nat.le_of_ble_eq_true rfl) rfl ?_
  exact w
set_option maxRecDepth 20000 in
set_option maxHeartbeats 4000000 in
theorem x_X6_copyPart_3 {G : pm_G} {d : Nat} {post : pm_PT} {h : pm_H} {l0 : Nat} {l1 : Int32} {l2 : Nat} {l3 : Int32} {l4 : Int32} {l5 : Int32} (w :
    if l4 ≤ l5 then (
      post none h
    ) else (
      (h.1[l2]? = some (0, 6)) ∧
      ci G d m_X6_at [.ref l2, .int (l3 + l5)] h fun r1 h2 =>
      (h2.1[l0]? = some (0, 6)) ∧
      cv G d m_X6_set [.ref l0, .int (l1 + l5), .int r1] h2 fun h4 =>
      Wp G (m_X6_copyPart, d + 1, 0, 0, post) (0, 0) 3 [.ref l0, .int l1, .ref l2, .int l3, .int l4, .int (l5 + 1)] [] h4
    )) :
    Wp G (m_X6_copyPart, d + 1, 0, 0, post) (0, 0) 3 [.ref l0, .int l1, .ref l2, .int l3, .int l4, .int l5] [] h := by
  refine w_iload dX6_copyPart_3 rfl ?_
  refine w_iload dX6_copyPart_5 rfl ?_
  refine w_ic_ge (tgt := 32) dX6_copyPart_7 rfl (fun c => ?_) (fun c => ?_)
  · rw [if_pos c] at w
    exact w_return dX6_copyPart_32 rfl ⟨Nat.le_refl _, Nat.le_refl _⟩ w
  · rw [if_neg c] at w
    refine w_aload_n dX6_copyPart_10 rfl ?_
    refine w_iload_n dX6_copyPart_11 rfl ?_
    refine w_iload dX6_copyPart_12 rfl ?_
    refine w_iadd dX6_copyPart_14 ?_
    refine w_aload_n dX6_copyPart_15 rfl ?_
    refine w_iload_n dX6_copyPart_16 rfl ?_
    refine w_iload dX6_copyPart_17 rfl ?_
    refine w_iadd dX6_copyPart_19 ?_
    obtain ⟨e1, w⟩ := w
    refine w_callV (As := [.int (l3 + l5)]) (st := [.int (l1 + l5), .ref l0]) dX6_copyPart_20 mt_X6_at g_1228 g_724 g_725 rfl e1 rfl rfl (Nat.le_of_ble_eq_true rfl) (Nat.le_refl _) ⟨Nat.le_refl _, Nat.le_refl _⟩ w ?_
    rintro v h2 ⟨r1, rfl, w⟩
    obtain ⟨e1, w⟩ := w
    refine w_callV (As := [.int (l1 + l5), .int r1]) (st := []) dX6_copyPart_23 mt_X6_set g_1229 g_667 g_668 rfl e1 rfl rfl (Nat.le_of_ble_eq_true rfl) (Nat.le_refl _) ⟨Nat.le_refl _, Nat.le_refl _⟩ w ?_
    rintro v h4 ⟨rfl, w⟩
    refine v_iinc (l' := [.ref l0, .int l1, .ref l2, .int l3, .int l4, .int (l5 + 1)]) (v := l5 + 1) dX6_copyPart_26 rfl rfl (Nat.le_of_ble_eq_true rfl) rfl ?_
    refine w_goto (tgt := 3) dX6_copyPart_29 rfl ?_
    exact w
set_option maxRecDepth 20000 in
set_option maxHeartbeats 4000000 in
theorem x_X9_withLetter {G : pm_G} {d : Nat} {post : pm_PT} {h : pm_H} {l0 : Int64} {l2 : Int32} (w :
    post (some (.long ((l0 * (32 : Int64)) + (((l2 - 97) + 1 : Int32).toInt64)))) h) :
    Wp G (m_X9_withLetter, d + 1, 0, 0, post) (0, 0) 0 [.long l0, .null, .int l2] [] h := by
  refine w_lload_n dX9_withLetter_0 rfl ?_
  refine w_ldc2 (v := (32 : Int64)) dX9_withLetter_1 g_591 ?_
  refine w_lmul dX9_withLetter_4 ?_
  refine w_iload_n dX9_withLetter_5 rfl ?_
  refine w_bipush (v := 97) dX9_withLetter_6 rfl ?_
  refine w_isub dX9_withLetter_8 ?_
  refine w_iconst (v := 1) dX9_withLetter_9 rfl ?_
  refine w_iadd dX9_withLetter_10 ?_
  refine w_i2l dX9_withLetter_11 ?_
  refine w_ladd dX9_withLetter_12 ?_
  exact w_lreturn dX9_withLetter_13 rfl ⟨Nat.le_refl _, Nat.le_refl _⟩ w
set_option maxRecDepth 20000 in
set_option maxHeartbeats 4000000 in
theorem x_X9_of {G : pm_G} {d : Nat} {post : pm_PT} {h : pm_H} {l0 : Int64} (w :
    Wp G (m_X9_of, d + 1, 0, 0, post) (0, 0) 10 [.long l0, .null, .ref 1100, .int 22, .int 0, .null] [] h) :
    Wp G (m_X9_of, d + 1, 0, 0, post) (0, 0) 0 [.long l0, .null, .null, .null, .null, .null] [] h := by
  refine w_getws dX9_of_0 g_595 ?_
  refine v_astore_n (l' := [.long l0, .null, .ref 1100, .null, .null, .null]) dX9_of_3 (Nat.le_of_ble_eq_true rfl) rfl ?_
  refine w_aload_n dX9_of_4 rfl ?_
  refine w_wlen (v := 22) dX9_of_5 rfl ?_
  refine v_istore_n (l' := [.long l0, .null, .ref 1100, .int 22, .null, .null]) dX9_of_6 (Nat.le_of_ble_eq_true rfl) rfl ?_
  refine w_iconst (v := 0) dX9_of_7 rfl ?_
  refine v_istore (l' := [.long l0, .null, .ref 1100, .int 22, .int 0, .null]) dX9_of_8 (Nat.le_of_ble_eq_true rfl) rfl ?_
  exact w
set_option maxRecDepth 20000 in
set_option maxHeartbeats 4000000 in
theorem x_X9_of_10 {G : pm_G} {d : Nat} {post : pm_PT} {h : pm_H} {l0 : Int64} {l3 : Int32} {l4 : Int32} (w :
    if l3 ≤ l4 then (
      post (some (.ref 1000)) h
    ) else (
      (vp_in l4 22) ∧
      ∃ (i1 : Nat) (w2 : String × Int64 × Int32 × Int32 × Int32), pm_wd[i1]? = some w2 ∧ (1000 + (l4 : Int32).toNatClampNeg) = 1000 + i1 ∧
      if (lg_cmp w2.2.1 l0) = 0 then (
        post (some (.ref (1000 + (l4 : Int32).toNatClampNeg))) h
      ) else (
        Wp G (m_X9_of, d + 1, 0, 0, post) (0, 0) 10 [.long l0, .null, .ref 1100, .int l3, .int (l4 + 1), .null] [] h
      )
    )) :
    Wp G (m_X9_of, d + 1, 0, 0, post) (0, 0) 10 [.long l0, .null, .ref 1100, .int l3, .int l4, .null] [] h := by
  refine w_iload dX9_of_10 rfl ?_
  refine w_iload_n dX9_of_12 rfl ?_
  refine w_ic_ge (tgt := 41) dX9_of_13 rfl (fun c => ?_) (fun c => ?_)
  · rw [if_pos c] at w
    refine w_getw (i := 0) dX9_of_41 rfl g_597 ?_
    exact w_areturn dX9_of_44 rfl ⟨Nat.le_refl _, Nat.le_refl _⟩ w
  · rw [if_neg c] at w
    refine w_aload_n dX9_of_16 rfl ?_
    refine w_iload dX9_of_17 rfl ?_
    obtain ⟨e1, w⟩ := w
    refine w_wald dX9_of_19 e1 ?_
    refine v_astore (l' := [.long l0, .null, .ref 1100, .int l3, .int l4, .ref (1000 + (l4 : Int32).toNatClampNeg)]) dX9_of_20 (Nat.le_of_ble_eq_true rfl) rfl ?_
    refine w_aload dX9_of_22 rfl ?_
    obtain ⟨i1, w2, li1, qi1, w⟩ := w
    refine v_wletters (x := 1000 + (l4 : Int32).toNatClampNeg) dX9_of_24 li1 qi1 (Or.inl g_1977) ?_
    refine w_lload_n dX9_of_27 rfl ?_
    refine w_lcmp dX9_of_28 ?_
    refine w_if_ne (tgt := 35) dX9_of_29 rfl (fun c => ?_) (fun c => ?_)
    · rw [if_neg c] at w
      refine v_iinc (l' := [.long l0, .null, .ref 1100, .int l3, .int (l4 + 1), .ref (1000 + (l4 : Int32).toNatClampNeg)]) (v := l4 + 1) dX9_of_35 rfl rfl (Nat.le_of_ble_eq_true rfl) rfl ?_
      refine w_goto (tgt := 10) dX9_of_38 rfl ?_
      exact w_drop (l' := [.long l0, .null, .ref 1100, .int l3, .int (l4 + 1), .null]) ⟨Or.inr rfl, Or.inl rfl, Or.inr rfl, Or.inr rfl, Or.inr rfl, Or.inl rfl, trivial⟩ w
    · rw [if_pos c] at w
      refine w_aload dX9_of_32 rfl ?_
      exact w_areturn dX9_of_34 rfl ⟨Nat.le_refl _, Nat.le_refl _⟩ w
set_option maxRecDepth 20000 in
set_option maxHeartbeats 4000000 in
theorem x_X10_add {G : pm_G} {d : Nat} {post : pm_PT} {h : pm_H} {l0 : Nat} {l1 : Int32} {l2 : Int32} {l3 : Int32} (w :
    (h.1[l0]? = some (0, 9)) ∧
    (h.1[gp h l0 0]? = some (0, 6)) ∧
    cv G d m_X6_set [.ref (gp h l0 0), .int (gi h l0 3), .int l1] h fun h2 =>
    (h2.1[l0]? = some (0, 9)) ∧
    (h2.1[gp h2 l0 1]? = some (0, 6)) ∧
    cv G d m_X6_set [.ref (gp h2 l0 1), .int (gi h2 l0 3), .int l2] h2 fun h4 =>
    (h4.1[l0]? = some (0, 9)) ∧
    (h4.1[gp h4 l0 2]? = some (0, 6)) ∧
    cv G d m_X6_set [.ref (gp h4 l0 2), .int (gi h4 l0 3), .int l3] h4 fun h6 =>
    (h6.1[l0]? = some (0, 9)) ∧
    ci G d m_J9_min_7cf53 [.int ((gi h6 l0 3) + 1), .int 30] h6 fun r7 h8 =>
    (h8.1[l0]? = some (0, 9)) ∧
    ∀ h9 : pm_H, h9 = si h8 l0 3 r7 →
    post none h9) :
    Wp G (m_X10_add, d + 1, 0, 0, post) (0, 0) 0 [.ref l0, .int l1, .int l2, .int l3] [] h := by
  refine w_aload_n dX10_add_0 rfl ?_
  obtain ⟨e1, w⟩ := w
  refine w_getp dX10_add_1 lk_RX10_14 e1 rfl ?_
  refine w_aload_n dX10_add_4 rfl ?_
  refine w_geti dX10_add_5 lk_RX10_26 e1 rfl ?_
  refine w_iload_n dX10_add_8 rfl ?_
  obtain ⟨e2, w⟩ := w
  refine w_callV (As := [.int (gi h l0 3), .int l1]) (st := []) dX10_add_9 mt_X6_set g_877 g_667 g_668 rfl e2 rfl rfl (Nat.le_of_ble_eq_true rfl) (Nat.le_refl _) ⟨Nat.le_refl _, Nat.le_refl _⟩ w ?_
  rintro v h2 ⟨rfl, w⟩
  refine w_aload_n dX10_add_12 rfl ?_
  obtain ⟨e1, w⟩ := w
  refine w_getp dX10_add_13 lk_RX10_20 e1 rfl ?_
  refine w_aload_n dX10_add_16 rfl ?_
  refine w_geti dX10_add_17 lk_RX10_26 e1 rfl ?_
  refine w_iload_n dX10_add_20 rfl ?_
  obtain ⟨e2, w⟩ := w
  refine w_callV (As := [.int (gi h2 l0 3), .int l2]) (st := []) dX10_add_21 mt_X6_set g_877 g_667 g_668 rfl e2 rfl rfl (Nat.le_of_ble_eq_true rfl) (Nat.le_refl _) ⟨Nat.le_refl _, Nat.le_refl _⟩ w ?_
  rintro v h4 ⟨rfl, w⟩
  refine w_aload_n dX10_add_24 rfl ?_
  obtain ⟨e1, w⟩ := w
  refine w_getp dX10_add_25 lk_RX10_23 e1 rfl ?_
  refine w_aload_n dX10_add_28 rfl ?_
  refine w_geti dX10_add_29 lk_RX10_26 e1 rfl ?_
  refine w_iload_n dX10_add_32 rfl ?_
  obtain ⟨e2, w⟩ := w
  refine w_callV (As := [.int (gi h4 l0 3), .int l3]) (st := []) dX10_add_33 mt_X6_set g_877 g_667 g_668 rfl e2 rfl rfl (Nat.le_of_ble_eq_true rfl) (Nat.le_refl _) ⟨Nat.le_refl _, Nat.le_refl _⟩ w ?_
  rintro v h6 ⟨rfl, w⟩
  refine w_aload_n dX10_add_36 rfl ?_
  refine w_aload_n dX10_add_37 rfl ?_
  obtain ⟨e1, w⟩ := w
  refine w_geti dX10_add_38 lk_RX10_26 e1 rfl ?_
  refine w_iconst (v := 1) dX10_add_41 rfl ?_
  refine w_iadd dX10_add_42 ?_
  refine w_bipush (v := 30) dX10_add_43 rfl ?_
  refine w_callS (As := [.int ((gi h6 l0 3) + 1), .int 30]) (st := [.ref l0]) dX10_add_45 mt_J9_min_7cf53 g_878 g_736 rfl rfl (Nat.le_of_ble_eq_true rfl) (Nat.le_refl _) ⟨Nat.le_refl _, Nat.le_refl _⟩ w ?_
  rintro v h8 ⟨r7, rfl, w⟩
  obtain ⟨e1, w⟩ := w
  refine w_puti dX10_add_48 lk_RX10_26 e1 rfl (Or.inl rfl) ?_
  have w := w _ rfl
  exact w_return dX10_add_51 rfl ⟨Nat.le_refl _, Nat.le_refl _⟩ w
set_option maxRecDepth 20000 in
set_option maxHeartbeats 4000000 in
theorem x_X10_copyFrom {G : pm_G} {d : Nat} {post : pm_PT} {h : pm_H} {l0 : Nat} {l1 : Nat} (w :
    (h.1[l0]? = some (0, 9)) ∧
    (h.1[l1]? = some (0, 9)) ∧
    (h.1[gp h l0 0]? = some (0, 6)) ∧
    cv G d m_X6_copyFrom [.ref (gp h l0 0), .ref (gp h l1 0)] h fun h2 =>
    (h2.1[l0]? = some (0, 9)) ∧
    (h2.1[l1]? = some (0, 9)) ∧
    (h2.1[gp h2 l0 1]? = some (0, 6)) ∧
    cv G d m_X6_copyFrom [.ref (gp h2 l0 1), .ref (gp h2 l1 1)] h2 fun h4 =>
    (h4.1[l0]? = some (0, 9)) ∧
    (h4.1[l1]? = some (0, 9)) ∧
    (h4.1[gp h4 l0 2]? = some (0, 6)) ∧
    cv G d m_X6_copyFrom [.ref (gp h4 l0 2), .ref (gp h4 l1 2)] h4 fun h6 =>
    (h6.1[l1]? = some (0, 9)) ∧
    (h6.1[l0]? = some (0, 9)) ∧
    ∀ h7 : pm_H, h7 = si h6 l0 3 (gi h6 l1 3) →
    post none h7) :
    Wp G (m_X10_copyFrom, d + 1, 0, 0, post) (0, 0) 0 [.ref l0, .ref l1] [] h := by
  refine w_aload_n dX10_copyFrom_0 rfl ?_
  obtain ⟨e1, w⟩ := w
  refine w_getp dX10_copyFrom_1 lk_RX10_14 e1 rfl ?_
  refine w_aload_n dX10_copyFrom_4 rfl ?_
  obtain ⟨e2, w⟩ := w
  refine w_getp dX10_copyFrom_5 lk_RX10_14 e2 rfl ?_
  obtain ⟨e3, w⟩ := w
  refine w_callV (As := [.ref (gp h l1 0)]) (st := []) dX10_copyFrom_8 mt_X6_copyFrom g_883 g_776 g_777 rfl e3 rfl rfl (Nat.le_of_ble_eq_true rfl) (Nat.le_refl _) ⟨Nat.le_refl _, Nat.le_refl _⟩ w ?_
  rintro v h2 ⟨rfl, w⟩
  refine w_aload_n dX10_copyFrom_11 rfl ?_
  obtain ⟨e1, w⟩ := w
  refine w_getp dX10_copyFrom_12 lk_RX10_20 e1 rfl ?_
  refine w_aload_n dX10_copyFrom_15 rfl ?_
  obtain ⟨e2, w⟩ := w
  refine w_getp dX10_copyFrom_16 lk_RX10_20 e2 rfl ?_
  obtain ⟨e3, w⟩ := w
  refine w_callV (As := [.ref (gp h2 l1 1)]) (st := []) dX10_copyFrom_19 mt_X6_copyFrom g_883 g_776 g_777 rfl e3 rfl rfl (Nat.le_of_ble_eq_true rfl) (Nat.le_refl _) ⟨Nat.le_refl _, Nat.le_refl _⟩ w ?_
  rintro v h4 ⟨rfl, w⟩
  refine w_aload_n dX10_copyFrom_22 rfl ?_
  obtain ⟨e1, w⟩ := w
  refine w_getp dX10_copyFrom_23 lk_RX10_23 e1 rfl ?_
  refine w_aload_n dX10_copyFrom_26 rfl ?_
  obtain ⟨e2, w⟩ := w
  refine w_getp dX10_copyFrom_27 lk_RX10_23 e2 rfl ?_
  obtain ⟨e3, w⟩ := w
  refine w_callV (As := [.ref (gp h4 l1 2)]) (st := []) dX10_copyFrom_30 mt_X6_copyFrom g_883 g_776 g_777 rfl e3 rfl rfl (Nat.le_of_ble_eq_true rfl) (Nat.le_refl _) ⟨Nat.le_refl _, Nat.le_refl _⟩ w ?_
  rintro v h6 ⟨rfl, w⟩
  refine w_aload_n dX10_copyFrom_33 rfl ?_
  refine w_aload_n dX10_copyFrom_34 rfl ?_
  obtain ⟨e1, w⟩ := w
  refine w_geti dX10_copyFrom_35 lk_RX10_26 e1 rfl ?_
  obtain ⟨e2, w⟩ := w
  refine w_puti dX10_copyFrom_38 lk_RX10_26 e2 rfl (Or.inl rfl) ?_
  have w := w _ rfl
  exact w_return dX10_copyFrom_41 rfl ⟨Nat.le_refl _, Nat.le_refl _⟩ w
set_option maxRecDepth 20000 in
set_option maxHeartbeats 4000000 in
theorem x_J6_bitCount_0f7a4 {G : pm_G} {d : Nat} {post : pm_PT} {h : pm_H} {l0 : Int32} (w :
    ∀ x1 : Int32, x1 = l0 - ((((l0).toUInt32 >>> ((1 : Int32).toUInt32 &&& Int32.toUInt32 31)).toInt32) &&& 1431655765) →
    ∀ x2 : Int32, x2 = (x1 &&& 858993459) + ((((x1).toUInt32 >>> ((2 : Int32).toUInt32 &&& Int32.toUInt32 31)).toInt32) &&& 858993459) →
    ∀ x3 : Int32, x3 = (x2 + (((x2).toUInt32 >>> ((4 : Int32).toUInt32 &&& Int32.toUInt32 31)).toInt32)) &&& 252645135 →
    ∀ x4 : Int32, x4 = x3 + (((x3).toUInt32 >>> ((8 : Int32).toUInt32 &&& Int32.toUInt32 31)).toInt32) →
    ∀ x5 : Int32, x5 = x4 + (((x4).toUInt32 >>> ((16 : Int32).toUInt32 &&& Int32.toUInt32 31)).toInt32) →
    post (some (.int (x5 &&& 63))) h) :
    Wp G (m_J6_bitCount_0f7a4, d + 1, 0, 0, post) (0, 0) 0 [.int l0] [] h := by
  refine w_iload_n dJ6_bitCount_0f7a4_0 rfl ?_
  refine w_iload_n dJ6_bitCount_0f7a4_1 rfl ?_
  refine w_iconst (v := 1) dJ6_bitCount_0f7a4_2 rfl ?_
  refine w_iushr dJ6_bitCount_0f7a4_3 ?_
  refine w_ldcw_i (v := 1431655765) dJ6_bitCount_0f7a4_4 g_1201 ?_
  refine w_iand dJ6_bitCount_0f7a4_7 ?_
  refine w_isub dJ6_bitCount_0f7a4_8 ?_
  obtain ⟨x1, qx1⟩ : ∃ y : Int32, y = l0 - ((((l0).toUInt32 >>> ((1 : Int32).toUInt32 &&& Int32.toUInt32 31)).toInt32) &&& 1431655765) := ⟨_, rfl⟩
  have w := w x1 qx1
  rw [← qx1]
  refine v_istore_n (l' := [.int x1]) dJ6_bitCount_0f7a4_9 (Nat.le_of_ble_eq_true rfl) rfl ?_
  refine w_iload_n dJ6_bitCount_0f7a4_10 rfl ?_
  refine w_ldcw_i (v := 858993459) dJ6_bitCount_0f7a4_11 g_1202 ?_
  refine w_iand dJ6_bitCount_0f7a4_14 ?_
  refine w_iload_n dJ6_bitCount_0f7a4_15 rfl ?_
  refine w_iconst (v := 2) dJ6_bitCount_0f7a4_16 rfl ?_
  refine w_iushr dJ6_bitCount_0f7a4_17 ?_
  refine w_ldcw_i (v := 858993459) dJ6_bitCount_0f7a4_18 g_1202 ?_
  refine w_iand dJ6_bitCount_0f7a4_21 ?_
  refine w_iadd dJ6_bitCount_0f7a4_22 ?_
  obtain ⟨x2, qx2⟩ : ∃ y : Int32, y = (x1 &&& 858993459) + ((((x1).toUInt32 >>> ((2 : Int32).toUInt32 &&& Int32.toUInt32 31)).toInt32) &&& 858993459) := ⟨_, rfl⟩
  have w := w x2 qx2
  rw [← qx2]
  refine v_istore_n (l' := [.int x2]) dJ6_bitCount_0f7a4_23 (Nat.le_of_ble_eq_true rfl) rfl ?_
  refine w_iload_n dJ6_bitCount_0f7a4_24 rfl ?_
  refine w_iload_n dJ6_bitCount_0f7a4_25 rfl ?_
  refine w_iconst (v := 4) dJ6_bitCount_0f7a4_26 rfl ?_
  refine w_iushr dJ6_bitCount_0f7a4_27 ?_
  refine w_iadd dJ6_bitCount_0f7a4_28 ?_
  refine w_ldcw_i (v := 252645135) dJ6_bitCount_0f7a4_29 g_1203 ?_
  refine w_iand dJ6_bitCount_0f7a4_32 ?_
  obtain ⟨x3, qx3⟩ : ∃ y : Int32, y = (x2 + (((x2).toUInt32 >>> ((4 : Int32).toUInt32 &&& Int32.toUInt32 31)).toInt32)) &&& 252645135 := ⟨_, rfl⟩
  have w := w x3 qx3
  rw [← qx3]
  refine v_istore_n (l' := [.int x3]) dJ6_bitCount_0f7a4_33 (Nat.le_of_ble_eq_true rfl) rfl ?_
  refine w_iload_n dJ6_bitCount_0f7a4_34 rfl ?_
  refine w_iload_n dJ6_bitCount_0f7a4_35 rfl ?_
  refine w_bipush (v := 8) dJ6_bitCount_0f7a4_36 rfl ?_
  refine w_iushr dJ6_bitCount_0f7a4_38 ?_
  refine w_iadd dJ6_bitCount_0f7a4_39 ?_
  obtain ⟨x4, qx4⟩ : ∃ y : Int32, y = x3 + (((x3).toUInt32 >>> ((8 : Int32).toUInt32 &&& Int32.toUInt32 31)).toInt32) := ⟨_, rfl⟩
  have w := w x4 qx4
  rw [← qx4]
  refine v_istore_n (l' := [.int x4]) dJ6_bitCount_0f7a4_40 (Nat.le_of_ble_eq_true rfl) rfl ?_
  refine w_iload_n dJ6_bitCount_0f7a4_41 rfl ?_
  refine w_iload_n dJ6_bitCount_0f7a4_42 rfl ?_
  refine w_bipush (v := 16) dJ6_bitCount_0f7a4_43 rfl ?_
  refine w_iushr dJ6_bitCount_0f7a4_45 ?_
  refine w_iadd dJ6_bitCount_0f7a4_46 ?_
  obtain ⟨x5, qx5⟩ : ∃ y : Int32, y = x4 + (((x4).toUInt32 >>> ((16 : Int32).toUInt32 &&& Int32.toUInt32 31)).toInt32) := ⟨_, rfl⟩
  have w := w x5 qx5
  rw [← qx5]
  refine v_istore_n (l' := [.int x5]) dJ6_bitCount_0f7a4_47 (Nat.le_of_ble_eq_true rfl) rfl ?_
  refine w_iload_n dJ6_bitCount_0f7a4_48 rfl ?_
  refine w_bipush (v := 63) dJ6_bitCount_0f7a4_49 rfl ?_
  refine w_iand dJ6_bitCount_0f7a4_51 ?_
  exact w_ireturn dJ6_bitCount_0f7a4_52 rfl rfl ⟨Nat.le_refl _, Nat.le_refl _⟩ w
set_option maxRecDepth 20000 in
set_option maxHeartbeats 4000000 in
theorem x_J9_abs_0f7a4 {G : pm_G} {d : Nat} {post : pm_PT} {h : pm_H} {l0 : Int32} (w :
    if 0 ≤ l0 then (
      post (some (.int l0)) h
    ) else (
      post (some (.int (-l0))) h
    )) :
    Wp G (m_J9_abs_0f7a4, d + 1, 0, 0, post) (0, 0) 0 [.int l0] [] h := by
  refine w_iload_n dJ9_abs_0f7a4_0 rfl ?_
  refine w_if_ge (tgt := 9) dJ9_abs_0f7a4_1 rfl (fun c => ?_) (fun c => ?_)
  · rw [if_pos c] at w
    refine w_iload_n dJ9_abs_0f7a4_9 rfl ?_
    exact w_ireturn dJ9_abs_0f7a4_10 rfl rfl ⟨Nat.le_refl _, Nat.le_refl _⟩ w
  · rw [if_neg c] at w
    refine w_iload_n dJ9_abs_0f7a4_4 rfl ?_
    refine w_ineg dJ9_abs_0f7a4_5 ?_
    refine w_goto (tgt := 10) dJ9_abs_0f7a4_6 rfl ?_
    exact w_ireturn dJ9_abs_0f7a4_10 rfl rfl ⟨Nat.le_refl _, Nat.le_refl _⟩ w
set_option maxRecDepth 20000 in
set_option maxHeartbeats 4000000 in
theorem x_J9_max_7cf53 {G : pm_G} {d : Nat} {post : pm_PT} {h : pm_H} {l0 : Int32} {l1 : Int32} (w :
    if l0 < l1 then (
      post (some (.int l1)) h
    ) else (
      post (some (.int l0)) h
    )) :
    Wp G (m_J9_max_7cf53, d + 1, 0, 0, post) (0, 0) 0 [.int l0, .int l1] [] h := by
  refine w_iload_n dJ9_max_7cf53_0 rfl ?_
  refine w_iload_n dJ9_max_7cf53_1 rfl ?_
  refine w_ic_lt (tgt := 9) dJ9_max_7cf53_2 rfl (fun c => ?_) (fun c => ?_)
  · rw [if_pos c] at w
    refine w_iload_n dJ9_max_7cf53_9 rfl ?_
    exact w_ireturn dJ9_max_7cf53_10 rfl rfl ⟨Nat.le_refl _, Nat.le_refl _⟩ w
  · rw [if_neg c] at w
    refine w_iload_n dJ9_max_7cf53_5 rfl ?_
    refine w_goto (tgt := 10) dJ9_max_7cf53_6 rfl ?_
    exact w_ireturn dJ9_max_7cf53_10 rfl rfl ⟨Nat.le_refl _, Nat.le_refl _⟩ w
set_option maxRecDepth 20000 in
set_option maxHeartbeats 4000000 in
theorem x_J9_min_7cf53 {G : pm_G} {d : Nat} {post : pm_PT} {h : pm_H} {l0 : Int32} {l1 : Int32} (w :
    if l1 < l0 then (
      post (some (.int l1)) h
    ) else (
      post (some (.int l0)) h
    )) :
    Wp G (m_J9_min_7cf53, d + 1, 0, 0, post) (0, 0) 0 [.int l0, .int l1] [] h := by
  refine w_iload_n dJ9_min_7cf53_0 rfl ?_
  refine w_iload_n dJ9_min_7cf53_1 rfl ?_
  refine w_ic_gt (tgt := 9) dJ9_min_7cf53_2 rfl (fun c => ?_) (fun c => ?_)
  · rw [if_pos c] at w
    refine w_iload_n dJ9_min_7cf53_9 rfl ?_
    exact w_ireturn dJ9_min_7cf53_10 rfl rfl ⟨Nat.le_refl _, Nat.le_refl _⟩ w
  · rw [if_neg c] at w
    refine w_iload_n dJ9_min_7cf53_5 rfl ?_
    refine w_goto (tgt := 10) dJ9_min_7cf53_6 rfl ?_
    exact w_ireturn dJ9_min_7cf53_10 rfl rfl ⟨Nat.le_refl _, Nat.le_refl _⟩ w
