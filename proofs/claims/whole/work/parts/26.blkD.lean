set_option linter.all false
set_option maxRecDepth 20000 in
set_option maxHeartbeats 4000000 in
theorem x_X8_takeAll {G : pm_G} {d : Nat} {post : pm_PT} {h : pm_H} {l0 : Nat} {l1 : Nat} {l2 : Int32} (w :
    (h.1[l0]? = some (0, 8)) ∧
    (h.1[gp h l0 1]? = some (0, 0)) ∧
    cv G d m_X0_copyFrom [.ref (gp h l0 1), .ref l1] h fun h2 =>
    (h2.1[l0]? = some (0, 8)) ∧
    (h2.1[gp h2 l0 2]? = some (0, 6)) ∧
    cv G d m_X6_fill [.ref (gp h2 l0 2), .int (-1)] h2 fun h4 =>
    (h4.1[l0]? = some (0, 8)) ∧
    ∀ h5 : pm_H, h5 = si h4 l0 3 0 →
    Wp G (m_X8_takeAll, d + 1, 0, 0, post) (0, 0) 23 [.ref l0, .null, .int l2, .int 0, .null] [] h5) :
    Wp G (m_X8_takeAll, d + 1, 0, 0, post) (0, 0) 0 [.ref l0, .ref l1, .int l2, .null, .null] [] h := by
  refine w_aload_n dX8_takeAll_0 rfl ?_
  obtain ⟨e1, w⟩ := w
  refine w_getp dX8_takeAll_1 lk_RX8_43 e1 rfl ?_
  refine w_aload_n dX8_takeAll_4 rfl ?_
  obtain ⟨e2, w⟩ := w
  refine w_callV (As := [.ref l1]) (st := []) dX8_takeAll_5 mt_X0_copyFrom g_1054 g_973 g_974 rfl e2 rfl rfl (Nat.le_of_ble_eq_true rfl) (Nat.le_refl _) ⟨Nat.le_refl _, Nat.le_refl _⟩ w ?_
  rintro v h2 ⟨rfl, w⟩
  refine w_aload_n dX8_takeAll_8 rfl ?_
  obtain ⟨e1, w⟩ := w
  refine w_getp dX8_takeAll_9 lk_RX8_14 e1 rfl ?_
  refine w_iconst (v := (-1)) dX8_takeAll_12 rfl ?_
  obtain ⟨e2, w⟩ := w
  refine w_callV (As := [.int (-1)]) (st := []) dX8_takeAll_13 mt_X6_fill g_1055 g_241 g_242 rfl e2 rfl rfl (Nat.le_of_ble_eq_true rfl) (Nat.le_refl _) ⟨Nat.le_refl _, Nat.le_refl _⟩ w ?_
  rintro v h4 ⟨rfl, w⟩
  refine w_aload_n dX8_takeAll_16 rfl ?_
  refine w_iconst (v := 0) dX8_takeAll_17 rfl ?_
  obtain ⟨e1, w⟩ := w
  refine w_puti dX8_takeAll_18 lk_RX8_20 e1 rfl (Or.inl rfl) ?_
  have w := w _ rfl
  refine w_iconst (v := 0) dX8_takeAll_21 rfl ?_
  refine v_istore_n (l' := [.ref l0, .ref l1, .int l2, .int 0, .null]) dX8_takeAll_22 (Nat.le_of_ble_eq_true rfl) rfl ?_
  exact w_drop (l' := [.ref l0, .null, .int l2, .int 0, .null]) ⟨Or.inr rfl, Or.inl rfl, Or.inr rfl, Or.inr rfl, Or.inl rfl, trivial⟩ w
set_option maxRecDepth 20000 in
set_option maxHeartbeats 4000000 in
theorem x_X8_takeAll_23 {G : pm_G} {d : Nat} {post : pm_PT} {h : pm_H} {l0 : Nat} {l2 : Int32} {l3 : Int32} (w :
    if 20 ≤ l3 then (
      post none h
    ) else (
      (h.1[l0]? = some (0, 8)) ∧
      (h.1[gp h l0 1]? = some (0, 0)) ∧
      ci G d m_X0_takeFrom [.ref (gp h l0 1), .int l2] h fun r1 h2 =>
      if r1 = (-1) then (
        post none h2
      ) else (
        (h2.1[l0]? = some (0, 8)) ∧
        (h2.1[gp h2 l0 2]? = some (0, 6)) ∧
        cv G d m_X6_set [.ref (gp h2 l0 2), .int (gi h2 l0 3), .int r1] h2 fun h4 =>
        (h4.1[l0]? = some (0, 8)) ∧
        ∀ h5 : pm_H, h5 = si h4 l0 3 ((gi h4 l0 3) + 1) →
        Wp G (m_X8_takeAll, d + 1, 0, 0, post) (0, 0) 23 [.ref l0, .null, .int l2, .int (l3 + 1), .null] [] h5
      )
    )) :
    Wp G (m_X8_takeAll, d + 1, 0, 0, post) (0, 0) 23 [.ref l0, .null, .int l2, .int l3, .null] [] h := by
  refine w_iload_n dX8_takeAll_23 rfl ?_
  refine w_bipush (v := 20) dX8_takeAll_24 rfl ?_
  refine w_ic_ge (tgt := 75) dX8_takeAll_26 rfl (fun c => ?_) (fun c => ?_)
  · rw [if_pos c] at w
    exact w_return dX8_takeAll_75 rfl ⟨Nat.le_refl _, Nat.le_refl _⟩ w
  · rw [if_neg c] at w
    refine w_aload_n dX8_takeAll_29 rfl ?_
    obtain ⟨e1, w⟩ := w
    refine w_getp dX8_takeAll_30 lk_RX8_43 e1 rfl ?_
    refine w_iload_n dX8_takeAll_33 rfl ?_
    obtain ⟨e2, w⟩ := w
    refine w_callV (As := [.int l2]) (st := []) dX8_takeAll_34 mt_X0_takeFrom g_1031 g_984 g_985 rfl e2 rfl rfl (Nat.le_of_ble_eq_true rfl) (Nat.le_refl _) ⟨Nat.le_refl _, Nat.le_refl _⟩ w ?_
    rintro v h2 ⟨r1, rfl, w⟩
    refine v_istore (l' := [.ref l0, .null, .int l2, .int l3, .int r1]) dX8_takeAll_37 (Nat.le_of_ble_eq_true rfl) rfl ?_
    refine w_iload dX8_takeAll_39 rfl ?_
    refine w_iconst (v := (-1)) dX8_takeAll_41 rfl ?_
    refine w_ic_ne (tgt := 46) dX8_takeAll_42 rfl (fun c => ?_) (fun c => ?_)
    · rw [if_neg c] at w
      refine w_aload_n dX8_takeAll_46 rfl ?_
      obtain ⟨e1, w⟩ := w
      refine w_getp dX8_takeAll_47 lk_RX8_14 e1 rfl ?_
      refine w_aload_n dX8_takeAll_50 rfl ?_
      refine w_geti dX8_takeAll_51 lk_RX8_20 e1 rfl ?_
      refine w_iload dX8_takeAll_54 rfl ?_
      obtain ⟨e2, w⟩ := w
      refine w_callV (As := [.int (gi h2 l0 3), .int r1]) (st := []) dX8_takeAll_56 mt_X6_set g_1056 g_667 g_668 rfl e2 rfl rfl (Nat.le_of_ble_eq_true rfl) (Nat.le_refl _) ⟨Nat.le_refl _, Nat.le_refl _⟩ w ?_
      rintro v h4 ⟨rfl, w⟩
      refine w_aload_n dX8_takeAll_59 rfl ?_
      refine w_dup dX8_takeAll_60 rfl ?_
      obtain ⟨e1, w⟩ := w
      refine w_geti dX8_takeAll_61 lk_RX8_20 e1 rfl ?_
      refine w_iconst (v := 1) dX8_takeAll_64 rfl ?_
      refine w_iadd dX8_takeAll_65 ?_
      refine w_puti dX8_takeAll_66 lk_RX8_20 e1 rfl (Or.inl rfl) ?_
      have w := w _ rfl
      refine v_iinc (l' := [.ref l0, .null, .int l2, .int (l3 + 1), .int r1]) (v := l3 + 1) dX8_takeAll_69 rfl rfl (Nat.le_of_ble_eq_true rfl) rfl ?_
      refine w_goto (tgt := 23) dX8_takeAll_72 rfl ?_
      exact w_drop (l' := [.ref l0, .null, .int l2, .int (l3 + 1), .null]) ⟨Or.inr rfl, Or.inl rfl, Or.inr rfl, Or.inr rfl, Or.inl rfl, trivial⟩ w
    · rw [if_pos c] at w
      exact w_return dX8_takeAll_45 rfl ⟨Nat.le_refl _, Nat.le_refl _⟩ w
set_option maxRecDepth 20000 in
set_option maxHeartbeats 4000000 in
theorem x_X8_awayOf {G : pm_G} {d : Nat} {post : pm_PT} {h : pm_H} {l0 : Nat} {l1 : Int32} (w :
    Wp G (m_X8_awayOf, d + 1, 0, 0, post) (0, 0) 7 [.ref l0, .int l1, .int 0, .int 0, .int 0] [] h) :
    Wp G (m_X8_awayOf, d + 1, 0, 0, post) (0, 0) 0 [.ref l0, .int l1, .null, .null, .null] [] h := by
  refine w_iconst (v := 0) dX8_awayOf_0 rfl ?_
  refine v_istore_n (l' := [.ref l0, .int l1, .int 0, .null, .null]) dX8_awayOf_1 (Nat.le_of_ble_eq_true rfl) rfl ?_
  refine w_iconst (v := 0) dX8_awayOf_2 rfl ?_
  refine v_istore_n (l' := [.ref l0, .int l1, .int 0, .int 0, .null]) dX8_awayOf_3 (Nat.le_of_ble_eq_true rfl) rfl ?_
  refine w_iconst (v := 0) dX8_awayOf_4 rfl ?_
  refine v_istore (l' := [.ref l0, .int l1, .int 0, .int 0, .int 0]) dX8_awayOf_5 (Nat.le_of_ble_eq_true rfl) rfl ?_
  exact w
set_option maxRecDepth 20000 in
set_option maxHeartbeats 4000000 in
theorem x_X8_awayOf_7 {G : pm_G} {d : Nat} {post : pm_PT} {h : pm_H} {l0 : Nat} {l1 : Int32} {l2 : Int32} {l3 : Int32} {l4 : Int32} (w :
    (h.1[l0]? = some (0, 8)) ∧
    if (gi h l0 3) ≤ l4 then (
      post (some (.int (l2 - l3))) h
    ) else (
      (h.1[gp h l0 2]? = some (0, 6)) ∧
      ci G d m_X6_at [.ref (gp h l0 2), .int l4] h fun r1 h2 =>
      if r1 = l1 then (
        (h2.1[l0]? = some (0, 8)) ∧
        (h2.1[gp h2 l0 2]? = some (0, 6)) ∧
        ci G d m_X6_at [.ref (gp h2 l0 2), .int l4] h2 fun r3 h4 =>
        (h4.1[gp h2 l0 0]? = some (0, 4)) ∧
        ci G d m_X4_isAhead [.ref (gp h2 l0 0), .int r3, .int l1] h4 fun r5 h6 =>
        if r5 = 0 then (
          Wp G (m_X8_awayOf, d + 1, 0, 0, post) (0, 0) 7 [.ref l0, .int l1, .int l4, .int (l3 + 0), .int (l4 + 1)] [] h6
        ) else (
          Wp G (m_X8_awayOf, d + 1, 0, 0, post) (0, 0) 7 [.ref l0, .int l1, .int l4, .int (l3 + 1), .int (l4 + 1)] [] h6
        )
      ) else (
        (h2.1[l0]? = some (0, 8)) ∧
        (h2.1[gp h2 l0 2]? = some (0, 6)) ∧
        ci G d m_X6_at [.ref (gp h2 l0 2), .int l4] h2 fun r7 h8 =>
        (h8.1[gp h2 l0 0]? = some (0, 4)) ∧
        ci G d m_X4_isAhead [.ref (gp h2 l0 0), .int r7, .int l1] h8 fun r9 h10 =>
        if r9 = 0 then (
          Wp G (m_X8_awayOf, d + 1, 0, 0, post) (0, 0) 7 [.ref l0, .int l1, .int l2, .int (l3 + 0), .int (l4 + 1)] [] h10
        ) else (
          Wp G (m_X8_awayOf, d + 1, 0, 0, post) (0, 0) 7 [.ref l0, .int l1, .int l2, .int (l3 + 1), .int (l4 + 1)] [] h10
        )
      )
    )) :
    Wp G (m_X8_awayOf, d + 1, 0, 0, post) (0, 0) 7 [.ref l0, .int l1, .int l2, .int l3, .int l4] [] h := by
  refine w_iload dX8_awayOf_7 rfl ?_
  refine w_aload_n dX8_awayOf_9 rfl ?_
  obtain ⟨e1, w⟩ := w
  refine w_geti dX8_awayOf_10 lk_RX8_20 e1 rfl ?_
  refine w_ic_ge (tgt := 70) dX8_awayOf_13 rfl (fun c => ?_) (fun c => ?_)
  · rw [if_pos c] at w
    refine w_iload_n dX8_awayOf_70 rfl ?_
    refine w_iload_n dX8_awayOf_71 rfl ?_
    refine w_isub dX8_awayOf_72 ?_
    exact w_ireturn dX8_awayOf_73 rfl rfl ⟨Nat.le_refl _, Nat.le_refl _⟩ w
  · rw [if_neg c] at w
    refine w_aload_n dX8_awayOf_16 rfl ?_
    refine w_getp dX8_awayOf_17 lk_RX8_14 e1 rfl ?_
    refine w_iload dX8_awayOf_20 rfl ?_
    obtain ⟨e2, w⟩ := w
    refine w_callV (As := [.int l4]) (st := []) dX8_awayOf_22 mt_X6_at g_1025 g_724 g_725 rfl e2 rfl rfl (Nat.le_of_ble_eq_true rfl) (Nat.le_refl _) ⟨Nat.le_refl _, Nat.le_refl _⟩ w ?_
    rintro v h2 ⟨r1, rfl, w⟩
    refine w_iload_n dX8_awayOf_25 rfl ?_
    refine w_ic_ne (tgt := 34) dX8_awayOf_26 rfl (fun c => ?_) (fun c => ?_)
    · rw [if_neg c] at w
      refine w_iload_n dX8_awayOf_34 rfl ?_
      refine v_istore_n (l' := [.ref l0, .int l1, .int l2, .int l3, .int l4]) dX8_awayOf_35 (Nat.le_of_ble_eq_true rfl) rfl ?_
      refine w_iload_n dX8_awayOf_36 rfl ?_
      refine w_aload_n dX8_awayOf_37 rfl ?_
      obtain ⟨e1, w⟩ := w
      refine w_getp dX8_awayOf_38 lk_RX8_34 e1 rfl ?_
      refine w_aload_n dX8_awayOf_41 rfl ?_
      refine w_getp dX8_awayOf_42 lk_RX8_14 e1 rfl ?_
      refine w_iload dX8_awayOf_45 rfl ?_
      obtain ⟨e2, w⟩ := w
      refine w_callV (As := [.int l4]) (st := [.ref (gp h2 l0 0), .int l3]) dX8_awayOf_47 mt_X6_at g_1025 g_724 g_725 rfl e2 rfl rfl (Nat.le_of_ble_eq_true rfl) (Nat.le_refl _) ⟨Nat.le_refl _, Nat.le_refl _⟩ w ?_
      rintro v h8 ⟨r7, rfl, w⟩
      refine w_iload_n dX8_awayOf_50 rfl ?_
      obtain ⟨e1, w⟩ := w
      refine w_callV (As := [.int r7, .int l1]) (st := [.int l3]) dX8_awayOf_51 mt_X4_isAhead g_1078 g_1079 g_1080 rfl e1 rfl rfl (Nat.le_of_ble_eq_true rfl) (Nat.le_refl _) ⟨Nat.le_refl _, Nat.le_refl _⟩ w ?_
      rintro v h10 ⟨r9, rfl, w⟩
      refine w_if_eq (tgt := 61) dX8_awayOf_54 rfl (fun c => ?_) (fun c => ?_)
      · rw [if_pos c] at w
        refine w_iconst (v := 0) dX8_awayOf_61 rfl ?_
        refine w_iadd dX8_awayOf_62 ?_
        refine v_istore_n (l' := [.ref l0, .int l1, .int l2, .int (l3 + 0), .int l4]) dX8_awayOf_63 (Nat.le_of_ble_eq_true rfl) rfl ?_
        refine v_iinc (l' := [.ref l0, .int l1, .int l2, .int (l3 + 0), .int (l4 + 1)]) (v := l4 + 1) dX8_awayOf_64 rfl rfl (Nat.le_of_ble_eq_true rfl) rfl ?_
        refine w_goto (tgt := 7) dX8_awayOf_67 rfl ?_
        exact w
      · rw [if_neg c] at w
        refine w_iconst (v := 1) dX8_awayOf_57 rfl ?_
        refine w_goto (tgt := 62) dX8_awayOf_58 rfl ?_
        refine w_iadd dX8_awayOf_62 ?_
        refine v_istore_n (l' := [.ref l0, .int l1, .int l2, .int (l3 + 1), .int l4]) dX8_awayOf_63 (Nat.le_of_ble_eq_true rfl) rfl ?_
        refine v_iinc (l' := [.ref l0, .int l1, .int l2, .int (l3 + 1), .int (l4 + 1)]) (v := l4 + 1) dX8_awayOf_64 rfl rfl (Nat.le_of_ble_eq_true rfl) rfl ?_
        refine w_goto (tgt := 7) dX8_awayOf_67 rfl ?_
        exact w
    · rw [if_pos c] at w
      refine w_iload dX8_awayOf_29 rfl ?_
      refine w_goto (tgt := 35) dX8_awayOf_31 rfl ?_
      refine v_istore_n (l' := [.ref l0, .int l1, .int l4, .int l3, .int l4]) dX8_awayOf_35 (Nat.le_of_ble_eq_true rfl) rfl ?_
      refine w_iload_n dX8_awayOf_36 rfl ?_
      refine w_aload_n dX8_awayOf_37 rfl ?_
      obtain ⟨e1, w⟩ := w
      refine w_getp dX8_awayOf_38 lk_RX8_34 e1 rfl ?_
      refine w_aload_n dX8_awayOf_41 rfl ?_
      refine w_getp dX8_awayOf_42 lk_RX8_14 e1 rfl ?_
      refine w_iload dX8_awayOf_45 rfl ?_
      obtain ⟨e2, w⟩ := w
      refine w_callV (As := [.int l4]) (st := [.ref (gp h2 l0 0), .int l3]) dX8_awayOf_47 mt_X6_at g_1025 g_724 g_725 rfl e2 rfl rfl (Nat.le_of_ble_eq_true rfl) (Nat.le_refl _) ⟨Nat.le_refl _, Nat.le_refl _⟩ w ?_
      rintro v h4 ⟨r3, rfl, w⟩
      refine w_iload_n dX8_awayOf_50 rfl ?_
      obtain ⟨e1, w⟩ := w
      refine w_callV (As := [.int r3, .int l1]) (st := [.int l3]) dX8_awayOf_51 mt_X4_isAhead g_1078 g_1079 g_1080 rfl e1 rfl rfl (Nat.le_of_ble_eq_true rfl) (Nat.le_refl _) ⟨Nat.le_refl _, Nat.le_refl _⟩ w ?_
      rintro v h6 ⟨r5, rfl, w⟩
      refine w_if_eq (tgt := 61) dX8_awayOf_54 rfl (fun c => ?_) (fun c => ?_)
      · rw [if_pos c] at w
        refine w_iconst (v := 0) dX8_awayOf_61 rfl ?_
        refine w_iadd dX8_awayOf_62 ?_
        refine v_istore_n (l' := [.ref l0, .int l1, .int l4, .int (l3 + 0), .int l4]) dX8_awayOf_63 (Nat.le_of_ble_eq_true rfl) rfl ?_
        refine v_iinc (l' := [.ref l0, .int l1, .int l4, .int (l3 + 0), .int (l4 + 1)]) (v := l4 + 1) dX8_awayOf_64 rfl rfl (Nat.le_of_ble_eq_true rfl) rfl ?_
        refine w_goto (tgt := 7) dX8_awayOf_67 rfl ?_
        exact w
      · rw [if_neg c] at w
        refine w_iconst (v := 1) dX8_awayOf_57 rfl ?_
        refine w_goto (tgt := 62) dX8_awayOf_58 rfl ?_
        refine w_iadd dX8_awayOf_62 ?_
        refine v_istore_n (l' := [.ref l0, .int l1, .int l4, .int (l3 + 1), .int l4]) dX8_awayOf_63 (Nat.le_of_ble_eq_true rfl) rfl ?_
        refine v_iinc (l' := [.ref l0, .int l1, .int l4, .int (l3 + 1), .int (l4 + 1)]) (v := l4 + 1) dX8_awayOf_64 rfl rfl (Nat.le_of_ble_eq_true rfl) rfl ?_
        refine w_goto (tgt := 7) dX8_awayOf_67 rfl ?_
        exact w
set_option maxRecDepth 20000 in
set_option maxHeartbeats 4000000 in
theorem x_X8_farthest {G : pm_G} {d : Nat} {post : pm_PT} {h : pm_H} {l0 : Nat} (w :
    Wp G (m_X8_farthest, d + 1, 0, 0, post) (0, 0) 4 [.ref l0, .int 0, .int 0] [] h) :
    Wp G (m_X8_farthest, d + 1, 0, 0, post) (0, 0) 0 [.ref l0, .null, .null] [] h := by
  refine w_iconst (v := 0) dX8_farthest_0 rfl ?_
  refine v_istore_n (l' := [.ref l0, .int 0, .null]) dX8_farthest_1 (Nat.le_of_ble_eq_true rfl) rfl ?_
  refine w_iconst (v := 0) dX8_farthest_2 rfl ?_
  refine v_istore_n (l' := [.ref l0, .int 0, .int 0]) dX8_farthest_3 (Nat.le_of_ble_eq_true rfl) rfl ?_
  exact w
set_option maxRecDepth 20000 in
set_option maxHeartbeats 4000000 in
theorem x_X8_farthest_4 {G : pm_G} {d : Nat} {post : pm_PT} {h : pm_H} {l0 : Nat} {l1 : Int32} {l2 : Int32} (w :
    (h.1[l0]? = some (0, 8)) ∧
    if (gi h l0 3) ≤ l2 then (
      post (some (.int l1)) h
    ) else (
      (h.1[gp h l0 2]? = some (0, 6)) ∧
      ci G d m_X6_at [.ref (gp h l0 2), .int l2] h fun r1 h2 =>
      (h2.1[l0]? = some (0, 8)) ∧
      ci G d m_X8_awayOf [.ref l0, .int r1] h2 fun r3 h4 =>
      ci G d m_J9_abs_0f7a4 [.int r3] h4 fun r5 h6 =>
      ci G d m_J9_max_7cf53 [.int l1, .int r5] h6 fun r7 h8 =>
      Wp G (m_X8_farthest, d + 1, 0, 0, post) (0, 0) 4 [.ref l0, .int r7, .int (l2 + 1)] [] h8
    )) :
    Wp G (m_X8_farthest, d + 1, 0, 0, post) (0, 0) 4 [.ref l0, .int l1, .int l2] [] h := by
  refine w_iload_n dX8_farthest_4 rfl ?_
  refine w_aload_n dX8_farthest_5 rfl ?_
  obtain ⟨e1, w⟩ := w
  refine w_geti dX8_farthest_6 lk_RX8_20 e1 rfl ?_
  refine w_ic_ge (tgt := 38) dX8_farthest_9 rfl (fun c => ?_) (fun c => ?_)
  · rw [if_pos c] at w
    refine w_iload_n dX8_farthest_38 rfl ?_
    exact w_ireturn dX8_farthest_39 rfl rfl ⟨Nat.le_refl _, Nat.le_refl _⟩ w
  · rw [if_neg c] at w
    refine w_iload_n dX8_farthest_12 rfl ?_
    refine w_aload_n dX8_farthest_13 rfl ?_
    refine w_aload_n dX8_farthest_14 rfl ?_
    refine w_getp dX8_farthest_15 lk_RX8_14 e1 rfl ?_
    refine w_iload_n dX8_farthest_18 rfl ?_
    obtain ⟨e2, w⟩ := w
    refine w_callV (As := [.int l2]) (st := [.ref l0, .int l1]) dX8_farthest_19 mt_X6_at g_1025 g_724 g_725 rfl e2 rfl rfl (Nat.le_of_ble_eq_true rfl) (Nat.le_refl _) ⟨Nat.le_refl _, Nat.le_refl _⟩ w ?_
    rintro v h2 ⟨r1, rfl, w⟩
    obtain ⟨e1, w⟩ := w
    refine w_callV (As := [.int r1]) (st := [.int l1]) dX8_farthest_22 mt_X8_awayOf g_1074 g_1075 g_1076 rfl e1 rfl rfl (Nat.le_of_ble_eq_true rfl) (Nat.le_refl _) ⟨Nat.le_refl _, Nat.le_refl _⟩ w ?_
    rintro v h4 ⟨r3, rfl, w⟩
    refine w_callS (As := [.int r3]) (st := [.int l1]) dX8_farthest_25 mt_J9_abs_0f7a4 g_1082 g_1083 rfl rfl (Nat.le_of_ble_eq_true rfl) (Nat.le_refl _) ⟨Nat.le_refl _, Nat.le_refl _⟩ w ?_
    rintro v h6 ⟨r5, rfl, w⟩
    refine w_callS (As := [.int l1, .int r5]) (st := []) dX8_farthest_28 mt_J9_max_7cf53 g_1085 g_819 rfl rfl (Nat.le_of_ble_eq_true rfl) (Nat.le_refl _) ⟨Nat.le_refl _, Nat.le_refl _⟩ w ?_
    rintro v h8 ⟨r7, rfl, w⟩
    refine v_istore_n (l' := [.ref l0, .int r7, .int l2]) dX8_farthest_31 (Nat.le_of_ble_eq_true rfl) rfl ?_
    refine v_iinc (l' := [.ref l0, .int r7, .int (l2 + 1)]) (v := l2 + 1) dX8_farthest_32 rfl rfl (Nat.le_of_ble_eq_true rfl) rfl ?_
    refine w_goto (tgt := 4) dX8_farthest_35 rfl ?_
    exact w
set_option maxRecDepth 20000 in
set_option maxHeartbeats 4000000 in
theorem x_X8_wrongPairs {G : pm_G} {d : Nat} {post : pm_PT} {h : pm_H} {l0 : Nat} (w :
    Wp G (m_X8_wrongPairs, d + 1, 0, 0, post) (0, 0) 4 [.ref l0, .int 0, .int 0, .null] [] h) :
    Wp G (m_X8_wrongPairs, d + 1, 0, 0, post) (0, 0) 0 [.ref l0, .null, .null, .null] [] h := by
  refine w_iconst (v := 0) dX8_wrongPairs_0 rfl ?_
  refine v_istore_n (l' := [.ref l0, .int 0, .null, .null]) dX8_wrongPairs_1 (Nat.le_of_ble_eq_true rfl) rfl ?_
  refine w_iconst (v := 0) dX8_wrongPairs_2 rfl ?_
  refine v_istore_n (l' := [.ref l0, .int 0, .int 0, .null]) dX8_wrongPairs_3 (Nat.le_of_ble_eq_true rfl) rfl ?_
  exact w
set_option maxRecDepth 20000 in
set_option maxHeartbeats 4000000 in
theorem x_X8_wrongPairs_4 {G : pm_G} {d : Nat} {post : pm_PT} {h : pm_H} {l0 : Nat} {l1 : Int32} {l2 : Int32} (w :
    (h.1[l0]? = some (0, 8)) ∧
    if (gi h l0 3) ≤ l2 then (
      post (some (.int l1)) h
    ) else (
      Wp G (m_X8_wrongPairs, d + 1, 0, 0, post) (0, 0) 14 [.ref l0, .int l1, .int l2, .int 0] [] h
    )) :
    Wp G (m_X8_wrongPairs, d + 1, 0, 0, post) (0, 0) 4 [.ref l0, .int l1, .int l2, .null] [] h := by
  refine w_iload_n dX8_wrongPairs_4 rfl ?_
  refine w_aload_n dX8_wrongPairs_5 rfl ?_
  obtain ⟨e1, w⟩ := w
  refine w_geti dX8_wrongPairs_6 lk_RX8_20 e1 rfl ?_
  refine w_ic_ge (tgt := 73) dX8_wrongPairs_9 rfl (fun c => ?_) (fun c => ?_)
  · rw [if_pos c] at w
    refine w_iload_n dX8_wrongPairs_73 rfl ?_
    exact w_ireturn dX8_wrongPairs_74 rfl rfl ⟨Nat.le_refl _, Nat.le_refl _⟩ w
  · rw [if_neg c] at w
    refine w_iconst (v := 0) dX8_wrongPairs_12 rfl ?_
    refine v_istore_n (l' := [.ref l0, .int l1, .int l2, .int 0]) dX8_wrongPairs_13 (Nat.le_of_ble_eq_true rfl) rfl ?_
    exact w
set_option maxRecDepth 20000 in
set_option maxHeartbeats 4000000 in
theorem x_X8_wrongPairs_14 {G : pm_G} {d : Nat} {post : pm_PT} {h : pm_H} {l0 : Nat} {l1 : Int32} {l2 : Int32} {l3 : Int32} (w :
    if l2 ≤ l3 then (
      Wp G (m_X8_wrongPairs, d + 1, 0, 0, post) (0, 0) 4 [.ref l0, .int l1, .int (l2 + 1), .null] [] h
    ) else (
      (h.1[l0]? = some (0, 8)) ∧
      (h.1[gp h l0 2]? = some (0, 6)) ∧
      ci G d m_X6_at [.ref (gp h l0 2), .int l2] h fun r1 h2 =>
      (h2.1[gp h l0 0]? = some (0, 4)) ∧
      cf G d m_X4_keyOf [.ref (gp h l0 0), .int r1] h2 fun r3 h4 =>
      (h4.1[l0]? = some (0, 8)) ∧
      (h4.1[gp h4 l0 2]? = some (0, 6)) ∧
      ci G d m_X6_at [.ref (gp h4 l0 2), .int l3] h4 fun r5 h6 =>
      (h6.1[gp h4 l0 0]? = some (0, 4)) ∧
      cf G d m_X4_keyOf [.ref (gp h4 l0 0), .int r5] h6 fun r7 h8 =>
      if 0 ≤ (Op.cmpValue (FP.fcmp r3 r7) .g) then (
        Wp G (m_X8_wrongPairs, d + 1, 0, 0, post) (0, 0) 14 [.ref l0, .int (l1 + 0), .int l2, .int (l3 + 1)] [] h8
      ) else (
        Wp G (m_X8_wrongPairs, d + 1, 0, 0, post) (0, 0) 14 [.ref l0, .int (l1 + 1), .int l2, .int (l3 + 1)] [] h8
      )
    )) :
    Wp G (m_X8_wrongPairs, d + 1, 0, 0, post) (0, 0) 14 [.ref l0, .int l1, .int l2, .int l3] [] h := by
  refine w_iload_n dX8_wrongPairs_14 rfl ?_
  refine w_iload_n dX8_wrongPairs_15 rfl ?_
  refine w_ic_ge (tgt := 67) dX8_wrongPairs_16 rfl (fun c => ?_) (fun c => ?_)
  · rw [if_pos c] at w
    refine v_iinc (l' := [.ref l0, .int l1, .int (l2 + 1), .int l3]) (v := l2 + 1) dX8_wrongPairs_67 rfl rfl (Nat.le_of_ble_eq_true rfl) rfl ?_
    refine w_goto (tgt := 4) dX8_wrongPairs_70 rfl ?_
    exact w_drop (l' := [.ref l0, .int l1, .int (l2 + 1), .null]) ⟨Or.inr rfl, Or.inr rfl, Or.inr rfl, Or.inl rfl, trivial⟩ w
  · rw [if_neg c] at w
    refine w_iload_n dX8_wrongPairs_19 rfl ?_
    refine w_aload_n dX8_wrongPairs_20 rfl ?_
    obtain ⟨e1, w⟩ := w
    refine w_getp dX8_wrongPairs_21 lk_RX8_34 e1 rfl ?_
    refine w_aload_n dX8_wrongPairs_24 rfl ?_
    refine w_getp dX8_wrongPairs_25 lk_RX8_14 e1 rfl ?_
    refine w_iload_n dX8_wrongPairs_28 rfl ?_
    obtain ⟨e2, w⟩ := w
    refine w_callV (As := [.int l2]) (st := [.ref (gp h l0 0), .int l1]) dX8_wrongPairs_29 mt_X6_at g_1025 g_724 g_725 rfl e2 rfl rfl (Nat.le_of_ble_eq_true rfl) (Nat.le_refl _) ⟨Nat.le_refl _, Nat.le_refl _⟩ w ?_
    rintro v h2 ⟨r1, rfl, w⟩
    obtain ⟨e1, w⟩ := w
    refine w_callV (As := [.int r1]) (st := [.int l1]) dX8_wrongPairs_32 mt_X4_keyOf g_1065 g_780 g_781 rfl e1 rfl rfl (Nat.le_of_ble_eq_true rfl) (Nat.le_refl _) ⟨Nat.le_refl _, Nat.le_refl _⟩ w ?_
    rintro v h4 ⟨r3, rfl, w⟩
    refine w_aload_n dX8_wrongPairs_35 rfl ?_
    obtain ⟨e1, w⟩ := w
    refine w_getp dX8_wrongPairs_36 lk_RX8_34 e1 rfl ?_
    refine w_aload_n dX8_wrongPairs_39 rfl ?_
    refine w_getp dX8_wrongPairs_40 lk_RX8_14 e1 rfl ?_
    refine w_iload_n dX8_wrongPairs_43 rfl ?_
    obtain ⟨e2, w⟩ := w
    refine w_callV (As := [.int l3]) (st := [.ref (gp h4 l0 0), .float r3, .int l1]) dX8_wrongPairs_44 mt_X6_at g_1025 g_724 g_725 rfl e2 rfl rfl (Nat.le_of_ble_eq_true rfl) (Nat.le_refl _) ⟨Nat.le_refl _, Nat.le_refl _⟩ w ?_
    rintro v h6 ⟨r5, rfl, w⟩
    obtain ⟨e1, w⟩ := w
    refine w_callV (As := [.int r5]) (st := [.float r3, .int l1]) dX8_wrongPairs_47 mt_X4_keyOf g_1065 g_780 g_781 rfl e1 rfl rfl (Nat.le_of_ble_eq_true rfl) (Nat.le_refl _) ⟨Nat.le_refl _, Nat.le_refl _⟩ w ?_
    rintro v h8 ⟨r7, rfl, w⟩
    refine w_fcmp dX8_wrongPairs_50 ?_
    refine w_if_ge (tgt := 58) dX8_wrongPairs_51 rfl (fun c => ?_) (fun c => ?_)
    · rw [if_pos c] at w
      refine w_iconst (v := 0) dX8_wrongPairs_58 rfl ?_
      refine w_iadd dX8_wrongPairs_59 ?_
      refine v_istore_n (l' := [.ref l0, .int (l1 + 0), .int l2, .int l3]) dX8_wrongPairs_60 (Nat.le_of_ble_eq_true rfl) rfl ?_
      refine v_iinc (l' := [.ref l0, .int (l1 + 0), .int l2, .int (l3 + 1)]) (v := l3 + 1) dX8_wrongPairs_61 rfl rfl (Nat.le_of_ble_eq_true rfl) rfl ?_
      refine w_goto (tgt := 14) dX8_wrongPairs_64 rfl ?_
      exact w
    · rw [if_neg c] at w
      refine w_iconst (v := 1) dX8_wrongPairs_54 rfl ?_
      refine w_goto (tgt := 59) dX8_wrongPairs_55 rfl ?_
      refine w_iadd dX8_wrongPairs_59 ?_
      refine v_istore_n (l' := [.ref l0, .int (l1 + 1), .int l2, .int l3]) dX8_wrongPairs_60 (Nat.le_of_ble_eq_true rfl) rfl ?_
      refine v_iinc (l' := [.ref l0, .int (l1 + 1), .int l2, .int (l3 + 1)]) (v := l3 + 1) dX8_wrongPairs_61 rfl rfl (Nat.le_of_ble_eq_true rfl) rfl ?_
      refine w_goto (tgt := 14) dX8_wrongPairs_64 rfl ?_
      exact w
set_option maxRecDepth 20000 in
set_option maxHeartbeats 4000000 in
theorem x_X8_sum {G : pm_G} {d : Nat} {post : pm_PT} {h : pm_H} {l0 : Nat} (w :
    Wp G (m_X8_sum, d + 1, 0, 0, post) (0, 0) 4 [.ref l0, .float FP.fconst0, .int 0] [] h) :
    Wp G (m_X8_sum, d + 1, 0, 0, post) (0, 0) 0 [.ref l0, .null, .null] [] h := by
  refine w_fconst0 dX8_sum_0 ?_
  refine v_fstore_n (l' := [.ref l0, .float FP.fconst0, .null]) dX8_sum_1 (Nat.le_of_ble_eq_true rfl) rfl ?_
  refine w_iconst (v := 0) dX8_sum_2 rfl ?_
  refine v_istore_n (l' := [.ref l0, .float FP.fconst0, .int 0]) dX8_sum_3 (Nat.le_of_ble_eq_true rfl) rfl ?_
  exact w
set_option maxRecDepth 20000 in
set_option maxHeartbeats 4000000 in
theorem x_X8_sum_4 {G : pm_G} {d : Nat} {post : pm_PT} {h : pm_H} {l0 : Nat} {l1 : UInt32} {l2 : Int32} (w :
    (h.1[l0]? = some (0, 8)) ∧
    if (gi h l0 3) ≤ l2 then (
      post (some (.float l1)) h
    ) else (
      (h.1[gp h l0 2]? = some (0, 6)) ∧
      ci G d m_X6_at [.ref (gp h l0 2), .int l2] h fun r1 h2 =>
      (h2.1[gp h l0 0]? = some (0, 4)) ∧
      cf G d m_X4_keyOf [.ref (gp h l0 0), .int r1] h2 fun r3 h4 =>
      (vf_n32 (FP.fadd l1 r3)) ∧
      Wp G (m_X8_sum, d + 1, 0, 0, post) (0, 0) 4 [.ref l0, .float (FP.fadd l1 r3), .int (l2 + 1)] [] h4
    )) :
    Wp G (m_X8_sum, d + 1, 0, 0, post) (0, 0) 4 [.ref l0, .float l1, .int l2] [] h := by
  refine w_iload_n dX8_sum_4 rfl ?_
  refine w_aload_n dX8_sum_5 rfl ?_
  obtain ⟨e1, w⟩ := w
  refine w_geti dX8_sum_6 lk_RX8_20 e1 rfl ?_
  refine w_ic_ge (tgt := 36) dX8_sum_9 rfl (fun c => ?_) (fun c => ?_)
  · rw [if_pos c] at w
    refine w_fload_n dX8_sum_36 rfl ?_
    exact w_freturn dX8_sum_37 rfl ⟨Nat.le_refl _, Nat.le_refl _⟩ w
  · rw [if_neg c] at w
    refine w_fload_n dX8_sum_12 rfl ?_
    refine w_aload_n dX8_sum_13 rfl ?_
    refine w_getp dX8_sum_14 lk_RX8_34 e1 rfl ?_
    refine w_aload_n dX8_sum_17 rfl ?_
    refine w_getp dX8_sum_18 lk_RX8_14 e1 rfl ?_
    refine w_iload_n dX8_sum_21 rfl ?_
    obtain ⟨e2, w⟩ := w
    refine w_callV (As := [.int l2]) (st := [.ref (gp h l0 0), .float l1]) dX8_sum_22 mt_X6_at g_1025 g_724 g_725 rfl e2 rfl rfl (Nat.le_of_ble_eq_true rfl) (Nat.le_refl _) ⟨Nat.le_refl _, Nat.le_refl _⟩ w ?_
    rintro v h2 ⟨r1, rfl, w⟩
    obtain ⟨e1, w⟩ := w
    refine w_callV (As := [.int r1]) (st := [.float l1]) dX8_sum_25 mt_X4_keyOf g_1065 g_780 g_781 rfl e1 rfl rfl (Nat.le_of_ble_eq_true rfl) (Nat.le_refl _) ⟨Nat.le_refl _, Nat.le_refl _⟩ w ?_
    rintro v h4 ⟨r3, rfl, w⟩
    obtain ⟨e1, w⟩ := w
    refine w_fadd dX8_sum_28 e1 ?_
    refine v_fstore_n (l' := [.ref l0, .float (FP.fadd l1 r3), .int l2]) dX8_sum_29 (Nat.le_of_ble_eq_true rfl) rfl ?_
    refine v_iinc (l' := [.ref l0, .float (FP.fadd l1 r3), .int (l2 + 1)]) (v := l2 + 1) dX8_sum_30 rfl rfl (Nat.le_of_ble_eq_true rfl) rfl ?_
    refine w_goto (tgt := 4) dX8_sum_33 rfl ?_
    exact w
set_option maxRecDepth 20000 in
set_option maxHeartbeats 4000000 in
theorem x_X8_splitOf {G : pm_G} {d : Nat} {post : pm_PT} {h : pm_H} {l0 : Nat} {l1 : Nat} {l2 : Int32} (w :
    (h.1[l0]? = some (0, 8)) ∧
    (h.1[gp h l0 1]? = some (0, 0)) ∧
    cv G d m_X0_copyFrom [.ref (gp h l0 1), .ref l1] h fun h2 =>
    (h2.1[l0]? = some (0, 8)) ∧
    ci G d m_X8_greatestOfThird [.ref l0, .int l2] h2 fun r3 h4 =>
    post (some (.int r3)) h4) :
    Wp G (m_X8_splitOf, d + 1, 0, 0, post) (0, 0) 0 [.ref l0, .ref l1, .int l2] [] h := by
  refine w_aload_n dX8_splitOf_0 rfl ?_
  obtain ⟨e1, w⟩ := w
  refine w_getp dX8_splitOf_1 lk_RX8_43 e1 rfl ?_
  refine w_aload_n dX8_splitOf_4 rfl ?_
  obtain ⟨e2, w⟩ := w
  refine w_callV (As := [.ref l1]) (st := []) dX8_splitOf_5 mt_X0_copyFrom g_1054 g_973 g_974 rfl e2 rfl rfl (Nat.le_of_ble_eq_true rfl) (Nat.le_refl _) ⟨Nat.le_refl _, Nat.le_refl _⟩ w ?_
  rintro v h2 ⟨rfl, w⟩
  refine w_aload_n dX8_splitOf_8 rfl ?_
  refine w_iload_n dX8_splitOf_9 rfl ?_
  obtain ⟨e1, w⟩ := w
  refine w_callV (As := [.int l2]) (st := []) dX8_splitOf_10 mt_X8_greatestOfThird g_1107 g_1109 g_43 rfl e1 rfl rfl (Nat.le_of_ble_eq_true rfl) (Nat.le_refl _) ⟨Nat.le_refl _, Nat.le_refl _⟩ w ?_
  rintro v h4 ⟨r3, rfl, w⟩
  exact w_ireturn dX8_splitOf_13 rfl rfl ⟨Nat.le_refl _, Nat.le_refl _⟩ w
set_option maxRecDepth 20000 in
set_option maxHeartbeats 4000000 in
theorem x_X8_greatestOfThird {G : pm_G} {d : Nat} {post : pm_PT} {h : pm_H} {l0 : Nat} {l1 : Int32} (w :
    (h.1[l0]? = some (0, 8)) ∧
    (h.1[gp h l0 1]? = some (0, 0)) ∧
    ci G d m_X0_itemsIn [.ref (gp h l0 1), .int l1] h fun r1 h2 =>
    ci G d m_J9_max_7cf53 [.int 1, .int (r1 / 3)] h2 fun r3 h4 =>
    Wp G (m_X8_greatestOfThird, d + 1, 0, 0, post) (0, 0) 20 [.ref l0, .int l1, .int r3, .int (-1), .int 0, .null] [] h4) :
    Wp G (m_X8_greatestOfThird, d + 1, 0, 0, post) (0, 0) 0 [.ref l0, .int l1, .null, .null, .null, .null] [] h := by
  refine w_iconst (v := 1) dX8_greatestOfThird_0 rfl ?_
  refine w_aload_n dX8_greatestOfThird_1 rfl ?_
  obtain ⟨e1, w⟩ := w
  refine w_getp dX8_greatestOfThird_2 lk_RX8_43 e1 rfl ?_
  refine w_iload_n dX8_greatestOfThird_5 rfl ?_
  obtain ⟨e2, w⟩ := w
  refine w_callV (As := [.int l1]) (st := [.int 1]) dX8_greatestOfThird_6 mt_X0_itemsIn g_1111 g_812 g_813 rfl e2 rfl rfl (Nat.le_of_ble_eq_true rfl) (Nat.le_refl _) ⟨Nat.le_refl _, Nat.le_refl _⟩ w ?_
  rintro v h2 ⟨r1, rfl, w⟩
  refine w_iconst (v := 3) dX8_greatestOfThird_9 rfl ?_
  refine w_idiv dX8_greatestOfThird_10 (by decide) ?_
  refine w_callS (As := [.int 1, .int (r1 / 3)]) (st := []) dX8_greatestOfThird_11 mt_J9_max_7cf53 g_1085 g_819 rfl rfl (Nat.le_of_ble_eq_true rfl) (Nat.le_refl _) ⟨Nat.le_refl _, Nat.le_refl _⟩ w ?_
  rintro v h4 ⟨r3, rfl, w⟩
  refine v_istore_n (l' := [.ref l0, .int l1, .int r3, .null, .null, .null]) dX8_greatestOfThird_14 (Nat.le_of_ble_eq_true rfl) rfl ?_
  refine w_iconst (v := (-1)) dX8_greatestOfThird_15 rfl ?_
  refine v_istore_n (l' := [.ref l0, .int l1, .int r3, .int (-1), .null, .null]) dX8_greatestOfThird_16 (Nat.le_of_ble_eq_true rfl) rfl ?_
  refine w_iconst (v := 0) dX8_greatestOfThird_17 rfl ?_
  refine v_istore (l' := [.ref l0, .int l1, .int r3, .int (-1), .int 0, .null]) dX8_greatestOfThird_18 (Nat.le_of_ble_eq_true rfl) rfl ?_
  exact w
set_option maxRecDepth 20000 in
set_option maxHeartbeats 4000000 in
theorem x_X8_greatestOfThird_20 {G : pm_G} {d : Nat} {post : pm_PT} {h : pm_H} {l0 : Nat} {l1 : Int32} {l2 : Int32} {l3 : Int32} {l4 : Int32} (w :
    if l2 ≤ l4 then (
      post (some (.int l3)) h
    ) else (
      (h.1[l0]? = some (0, 8)) ∧
      (h.1[gp h l0 1]? = some (0, 0)) ∧
      ci G d m_X0_takeFrom [.ref (gp h l0 1), .int l1] h fun r1 h2 =>
      if r1 = (-1) then (
        Wp G (m_X8_greatestOfThird, d + 1, 0, 0, post) (0, 0) 20 [.ref l0, .int l1, .int l2, .int l3, .int (l4 + 1), .null] [] h2
      ) else (
        if l3 = (-1) then (
          Wp G (m_X8_greatestOfThird, d + 1, 0, 0, post) (0, 0) 20 [.ref l0, .int l1, .int l2, .int r1, .int (l4 + 1), .null] [] h2
        ) else (
          (h2.1[l0]? = some (0, 8)) ∧
          (h2.1[gp h2 l0 0]? = some (0, 4)) ∧
          ci G d m_X4_isAhead [.ref (gp h2 l0 0), .int l3, .int r1] h2 fun r3 h4 =>
          if r3 = 0 then (
            Wp G (m_X8_greatestOfThird, d + 1, 0, 0, post) (0, 0) 20 [.ref l0, .int l1, .int l2, .int l3, .int (l4 + 1), .null] [] h4
          ) else (
            Wp G (m_X8_greatestOfThird, d + 1, 0, 0, post) (0, 0) 20 [.ref l0, .int l1, .int l2, .int r1, .int (l4 + 1), .null] [] h4
          )
        )
      )
    )) :
    Wp G (m_X8_greatestOfThird, d + 1, 0, 0, post) (0, 0) 20 [.ref l0, .int l1, .int l2, .int l3, .int l4, .null] [] h := by
  refine w_iload dX8_greatestOfThird_20 rfl ?_
  refine w_iload_n dX8_greatestOfThird_22 rfl ?_
  refine w_ic_ge (tgt := 69) dX8_greatestOfThird_23 rfl (fun c => ?_) (fun c => ?_)
  · rw [if_pos c] at w
    refine w_iload_n dX8_greatestOfThird_69 rfl ?_
    exact w_ireturn dX8_greatestOfThird_70 rfl rfl ⟨Nat.le_refl _, Nat.le_refl _⟩ w
  · rw [if_neg c] at w
    refine w_aload_n dX8_greatestOfThird_26 rfl ?_
    obtain ⟨e1, w⟩ := w
    refine w_getp dX8_greatestOfThird_27 lk_RX8_43 e1 rfl ?_
    refine w_iload_n dX8_greatestOfThird_30 rfl ?_
    obtain ⟨e2, w⟩ := w
    refine w_callV (As := [.int l1]) (st := []) dX8_greatestOfThird_31 mt_X0_takeFrom g_1031 g_984 g_985 rfl e2 rfl rfl (Nat.le_of_ble_eq_true rfl) (Nat.le_refl _) ⟨Nat.le_refl _, Nat.le_refl _⟩ w ?_
    rintro v h2 ⟨r1, rfl, w⟩
    refine v_istore (l' := [.ref l0, .int l1, .int l2, .int l3, .int l4, .int r1]) dX8_greatestOfThird_34 (Nat.le_of_ble_eq_true rfl) rfl ?_
    refine w_iload dX8_greatestOfThird_36 rfl ?_
    refine w_iconst (v := (-1)) dX8_greatestOfThird_38 rfl ?_
    refine w_ic_eq (tgt := 63) dX8_greatestOfThird_39 rfl (fun c => ?_) (fun c => ?_)
    · rw [if_pos c] at w
      refine v_iinc (l' := [.ref l0, .int l1, .int l2, .int l3, .int (l4 + 1), .int r1]) (v := l4 + 1) dX8_greatestOfThird_63 rfl rfl (Nat.le_of_ble_eq_true rfl) rfl ?_
      refine w_goto (tgt := 20) dX8_greatestOfThird_66 rfl ?_
      exact w_drop (l' := [.ref l0, .int l1, .int l2, .int l3, .int (l4 + 1), .null]) ⟨Or.inr rfl, Or.inr rfl, Or.inr rfl, Or.inr rfl, Or.inr rfl, Or.inl rfl, trivial⟩ w
    · rw [if_neg c] at w
      refine w_iload_n dX8_greatestOfThird_42 rfl ?_
      refine w_iconst (v := (-1)) dX8_greatestOfThird_43 rfl ?_
      refine w_ic_eq (tgt := 60) dX8_greatestOfThird_44 rfl (fun c => ?_) (fun c => ?_)
      · rw [if_pos c] at w
        refine w_iload dX8_greatestOfThird_60 rfl ?_
        refine v_istore_n (l' := [.ref l0, .int l1, .int l2, .int r1, .int l4, .int r1]) dX8_greatestOfThird_62 (Nat.le_of_ble_eq_true rfl) rfl ?_
        refine v_iinc (l' := [.ref l0, .int l1, .int l2, .int r1, .int (l4 + 1), .int r1]) (v := l4 + 1) dX8_greatestOfThird_63 rfl rfl (Nat.le_of_ble_eq_true rfl) rfl ?_
        refine w_goto (tgt := 20) dX8_greatestOfThird_66 rfl ?_
        exact w_drop (l' := [.ref l0, .int l1, .int l2, .int r1, .int (l4 + 1), .null]) ⟨Or.inr rfl, Or.inr rfl, Or.inr rfl, Or.inr rfl, Or.inr rfl, Or.inl rfl, trivial⟩ w
      · rw [if_neg c] at w
        refine w_aload_n dX8_greatestOfThird_47 rfl ?_
        obtain ⟨e1, w⟩ := w
        refine w_getp dX8_greatestOfThird_48 lk_RX8_34 e1 rfl ?_
        refine w_iload_n dX8_greatestOfThird_51 rfl ?_
        refine w_iload dX8_greatestOfThird_52 rfl ?_
        obtain ⟨e2, w⟩ := w
        refine w_callV (As := [.int l3, .int r1]) (st := []) dX8_greatestOfThird_54 mt_X4_isAhead g_1078 g_1079 g_1080 rfl e2 rfl rfl (Nat.le_of_ble_eq_true rfl) (Nat.le_refl _) ⟨Nat.le_refl _, Nat.le_refl _⟩ w ?_
        rintro v h4 ⟨r3, rfl, w⟩
        refine w_if_eq (tgt := 63) dX8_greatestOfThird_57 rfl (fun c => ?_) (fun c => ?_)
        · rw [if_pos c] at w
          refine v_iinc (l' := [.ref l0, .int l1, .int l2, .int l3, .int (l4 + 1), .int r1]) (v := l4 + 1) dX8_greatestOfThird_63 rfl rfl (Nat.le_of_ble_eq_true rfl) rfl ?_
          refine w_goto (tgt := 20) dX8_greatestOfThird_66 rfl ?_
          exact w_drop (l' := [.ref l0, .int l1, .int l2, .int l3, .int (l4 + 1), .null]) ⟨Or.inr rfl, Or.inr rfl, Or.inr rfl, Or.inr rfl, Or.inr rfl, Or.inl rfl, trivial⟩ w
        · rw [if_neg c] at w
          refine w_iload dX8_greatestOfThird_60 rfl ?_
          refine v_istore_n (l' := [.ref l0, .int l1, .int l2, .int r1, .int l4, .int r1]) dX8_greatestOfThird_62 (Nat.le_of_ble_eq_true rfl) rfl ?_
          refine v_iinc (l' := [.ref l0, .int l1, .int l2, .int r1, .int (l4 + 1), .int r1]) (v := l4 + 1) dX8_greatestOfThird_63 rfl rfl (Nat.le_of_ble_eq_true rfl) rfl ?_
          refine w_goto (tgt := 20) dX8_greatestOfThird_66 rfl ?_
          exact w_drop (l' := [.ref l0, .int l1, .int l2, .int r1, .int (l4 + 1), .null]) ⟨Or.inr rfl, Or.inr rfl, Or.inr rfl, Or.inr rfl, Or.inr rfl, Or.inl rfl, trivial⟩ w
set_option maxRecDepth 20000 in
set_option maxHeartbeats 4000000 in
theorem x_X8_stepsTo {G : pm_G} {d : Nat} {post : pm_PT} {h : pm_H} {l0 : Nat} {l1 : Nat} {l2 : Int32} {l3 : Int32} (w :
    (h.1[l1]? = some (0, 0)) ∧
    ci G d m_X0_selected [.ref l1, .int l2, .int l3] h fun r1 h2 =>
    if r1 = (-1) then (
      post (some (.int (-1))) h2
    ) else (
      Wp G (m_X8_stepsTo, d + 1, 0, 0, post) (0, 0) 19 [.ref l0, .ref l1, .int l2, .null, .int r1, .int 0, .null] [] h2
    )) :
    Wp G (m_X8_stepsTo, d + 1, 0, 0, post) (0, 0) 0 [.ref l0, .ref l1, .int l2, .int l3, .null, .null, .null] [] h := by
  refine w_aload_n dX8_stepsTo_0 rfl ?_
  refine w_iload_n dX8_stepsTo_1 rfl ?_
  refine w_iload_n dX8_stepsTo_2 rfl ?_
  obtain ⟨e1, w⟩ := w
  refine w_callV (As := [.int l2, .int l3]) (st := []) dX8_stepsTo_3 mt_X0_selected g_1121 g_1091 g_1092 rfl e1 rfl rfl (Nat.le_of_ble_eq_true rfl) (Nat.le_refl _) ⟨Nat.le_refl _, Nat.le_refl _⟩ w ?_
  rintro v h2 ⟨r1, rfl, w⟩
  refine v_istore (l' := [.ref l0, .ref l1, .int l2, .int l3, .int r1, .null, .null]) dX8_stepsTo_6 (Nat.le_of_ble_eq_true rfl) rfl ?_
  refine w_iload dX8_stepsTo_8 rfl ?_
  refine w_iconst (v := (-1)) dX8_stepsTo_10 rfl ?_
  refine w_ic_ne (tgt := 16) dX8_stepsTo_11 rfl (fun c => ?_) (fun c => ?_)
  · rw [if_neg c] at w
    refine w_iconst (v := 0) dX8_stepsTo_16 rfl ?_
    refine v_istore (l' := [.ref l0, .ref l1, .int l2, .int l3, .int r1, .int 0, .null]) dX8_stepsTo_17 (Nat.le_of_ble_eq_true rfl) rfl ?_
    exact w_drop (l' := [.ref l0, .ref l1, .int l2, .null, .int r1, .int 0, .null]) ⟨Or.inr rfl, Or.inr rfl, Or.inr rfl, Or.inl rfl, Or.inr rfl, Or.inr rfl, Or.inl rfl, trivial⟩ w
  · rw [if_pos c] at w
    refine w_iconst (v := (-1)) dX8_stepsTo_14 rfl ?_
    exact w_ireturn dX8_stepsTo_15 rfl rfl ⟨Nat.le_refl _, Nat.le_refl _⟩ w
set_option maxRecDepth 20000 in
set_option maxHeartbeats 4000000 in
theorem x_X8_stepsTo_19 {G : pm_G} {d : Nat} {post : pm_PT} {h : pm_H} {l0 : Nat} {l1 : Nat} {l2 : Int32} {l4 : Int32} {l5 : Int32} (w :
    if 20 ≤ l5 then (
      Wp G (m_X8_stepsTo, d + 1, 0, 0, post) (0, 0) 62 [.ref l0, .null, .null, .null, .int l4, .int 1, .null] [] h
    ) else (
      (h.1[l0]? = some (0, 8)) ∧
      (h.1[l1]? = some (0, 0)) ∧
      (h.1[gp h l1 13]? = some (0, 6)) ∧
      ci G d m_X6_at [.ref (gp h l1 13), .int l5] h fun r1 h2 =>
      if r1 = l2 then (
        (h2.1[gp h l0 4]? = some (0, 6)) ∧
        cv G d m_X6_set [.ref (gp h l0 4), .int l5, .int 1] h2 fun h4 =>
        Wp G (m_X8_stepsTo, d + 1, 0, 0, post) (0, 0) 19 [.ref l0, .ref l1, .int l2, .null, .int l4, .int (l5 + 1), .null] [] h4
      ) else (
        (h2.1[gp h l0 4]? = some (0, 6)) ∧
        cv G d m_X6_set [.ref (gp h l0 4), .int l5, .int 0] h2 fun h6 =>
        Wp G (m_X8_stepsTo, d + 1, 0, 0, post) (0, 0) 19 [.ref l0, .ref l1, .int l2, .null, .int l4, .int (l5 + 1), .null] [] h6
      )
    )) :
    Wp G (m_X8_stepsTo, d + 1, 0, 0, post) (0, 0) 19 [.ref l0, .ref l1, .int l2, .null, .int l4, .int l5, .null] [] h := by
  refine w_iload dX8_stepsTo_19 rfl ?_
  refine w_bipush (v := 20) dX8_stepsTo_21 rfl ?_
  refine w_ic_ge (tgt := 59) dX8_stepsTo_23 rfl (fun c => ?_) (fun c => ?_)
  · rw [if_pos c] at w
    refine w_iconst (v := 1) dX8_stepsTo_59 rfl ?_
    refine v_istore (l' := [.ref l0, .ref l1, .int l2, .null, .int l4, .int 1, .null]) dX8_stepsTo_60 (Nat.le_of_ble_eq_true rfl) rfl ?_
    exact w_drop (l' := [.ref l0, .null, .null, .null, .int l4, .int 1, .null]) ⟨Or.inr rfl, Or.inl rfl, Or.inl rfl, Or.inl rfl, Or.inr rfl, Or.inr rfl, Or.inl rfl, trivial⟩ w
  · rw [if_neg c] at w
    refine w_aload_n dX8_stepsTo_26 rfl ?_
    obtain ⟨e1, w⟩ := w
    refine w_getp dX8_stepsTo_27 lk_RX8_24 e1 rfl ?_
    refine w_iload dX8_stepsTo_30 rfl ?_
    refine w_aload_n dX8_stepsTo_32 rfl ?_
    obtain ⟨e2, w⟩ := w
    refine w_getp dX8_stepsTo_33 lk_RX8_96 e2 rfl ?_
    refine w_iload dX8_stepsTo_36 rfl ?_
    obtain ⟨e3, w⟩ := w
    refine w_callV (As := [.int l5]) (st := [.int l5, .ref (gp h l0 4)]) dX8_stepsTo_38 mt_X6_at g_1025 g_724 g_725 rfl e3 rfl rfl (Nat.le_of_ble_eq_true rfl) (Nat.le_refl _) ⟨Nat.le_refl _, Nat.le_refl _⟩ w ?_
    rintro v h2 ⟨r1, rfl, w⟩
    refine w_iload_n dX8_stepsTo_41 rfl ?_
    refine w_ic_ne (tgt := 49) dX8_stepsTo_42 rfl (fun c => ?_) (fun c => ?_)
    · rw [if_neg c] at w
      refine w_iconst (v := 0) dX8_stepsTo_49 rfl ?_
      obtain ⟨e1, w⟩ := w
      refine w_callV (As := [.int l5, .int 0]) (st := []) dX8_stepsTo_50 mt_X6_set g_1056 g_667 g_668 rfl e1 rfl rfl (Nat.le_of_ble_eq_true rfl) (Nat.le_refl _) ⟨Nat.le_refl _, Nat.le_refl _⟩ w ?_
      rintro v h6 ⟨rfl, w⟩
      refine v_iinc (l' := [.ref l0, .ref l1, .int l2, .null, .int l4, .int (l5 + 1), .null]) (v := l5 + 1) dX8_stepsTo_53 rfl rfl (Nat.le_of_ble_eq_true rfl) rfl ?_
      refine w_goto (tgt := 19) dX8_stepsTo_56 rfl ?_
      exact w
    · rw [if_pos c] at w
      refine w_iconst (v := 1) dX8_stepsTo_45 rfl ?_
      refine w_goto (tgt := 50) dX8_stepsTo_46 rfl ?_
      obtain ⟨e1, w⟩ := w
      refine w_callV (As := [.int l5, .int 1]) (st := []) dX8_stepsTo_50 mt_X6_set g_1056 g_667 g_668 rfl e1 rfl rfl (Nat.le_of_ble_eq_true rfl) (Nat.le_refl _) ⟨Nat.le_refl _, Nat.le_refl _⟩ w ?_
      rintro v h4 ⟨rfl, w⟩
      refine v_iinc (l' := [.ref l0, .ref l1, .int l2, .null, .int l4, .int (l5 + 1), .null]) (v := l5 + 1) dX8_stepsTo_53 rfl rfl (Nat.le_of_ble_eq_true rfl) rfl ?_
      refine w_goto (tgt := 19) dX8_stepsTo_56 rfl ?_
      exact w
set_option maxRecDepth 20000 in
set_option maxHeartbeats 4000000 in
theorem x_X8_stepsTo_62 {G : pm_G} {d : Nat} {post : pm_PT} {h : pm_H} {l0 : Nat} {l4 : Int32} {l5 : Int32} (w :
    if 20 < l5 then (
      post (some (.int (-1))) h
    ) else (
      (h.1[l0]? = some (0, 8)) ∧
      ci G d m_X8_splitOfChosen [.ref l0] h fun r1 h2 =>
      if r1 = l4 then (
        post (some (.int l5)) h2
      ) else (
        (h2.1[l0]? = some (0, 8)) ∧
        cv G d m_X8_keepSide [.ref l0, .int r1, .int l4] h2 fun h4 =>
        Wp G (m_X8_stepsTo, d + 1, 0, 0, post) (0, 0) 62 [.ref l0, .null, .null, .null, .int l4, .int (l5 + 1), .null] [] h4
      )
    )) :
    Wp G (m_X8_stepsTo, d + 1, 0, 0, post) (0, 0) 62 [.ref l0, .null, .null, .null, .int l4, .int l5, .null] [] h := by
  refine w_iload dX8_stepsTo_62 rfl ?_
  refine w_bipush (v := 20) dX8_stepsTo_64 rfl ?_
  refine w_ic_gt (tgt := 99) dX8_stepsTo_66 rfl (fun c => ?_) (fun c => ?_)
  · rw [if_pos c] at w
    refine w_iconst (v := (-1)) dX8_stepsTo_99 rfl ?_
    exact w_ireturn dX8_stepsTo_100 rfl rfl ⟨Nat.le_refl _, Nat.le_refl _⟩ w
  · rw [if_neg c] at w
    refine w_aload_n dX8_stepsTo_69 rfl ?_
    obtain ⟨e1, w⟩ := w
    refine w_callV (As := []) (st := []) dX8_stepsTo_70 mt_X8_splitOfChosen g_1122 g_1124 g_44 rfl e1 rfl rfl (Nat.le_of_ble_eq_true rfl) (Nat.le_refl _) ⟨Nat.le_refl _, Nat.le_refl _⟩ w ?_
    rintro v h2 ⟨r1, rfl, w⟩
    refine v_istore (l' := [.ref l0, .null, .null, .null, .int l4, .int l5, .int r1]) dX8_stepsTo_73 (Nat.le_of_ble_eq_true rfl) rfl ?_
    refine w_iload dX8_stepsTo_75 rfl ?_
    refine w_iload dX8_stepsTo_77 rfl ?_
    refine w_ic_ne (tgt := 85) dX8_stepsTo_79 rfl (fun c => ?_) (fun c => ?_)
    · rw [if_neg c] at w
      refine w_aload_n dX8_stepsTo_85 rfl ?_
      refine w_iload dX8_stepsTo_86 rfl ?_
      refine w_iload dX8_stepsTo_88 rfl ?_
      obtain ⟨e1, w⟩ := w
      refine w_callV (As := [.int r1, .int l4]) (st := []) dX8_stepsTo_90 mt_X8_keepSide g_1127 g_1129 g_45 rfl e1 rfl rfl (Nat.le_of_ble_eq_true rfl) (Nat.le_refl _) ⟨Nat.le_refl _, Nat.le_refl _⟩ w ?_
      rintro v h4 ⟨rfl, w⟩
      refine v_iinc (l' := [.ref l0, .null, .null, .null, .int l4, .int (l5 + 1), .int r1]) (v := l5 + 1) dX8_stepsTo_93 rfl rfl (Nat.le_of_ble_eq_true rfl) rfl ?_
      refine w_goto (tgt := 62) dX8_stepsTo_96 rfl ?_
      exact w_drop (l' := [.ref l0, .null, .null, .null, .int l4, .int (l5 + 1), .null]) ⟨Or.inr rfl, Or.inl rfl, Or.inl rfl, Or.inl rfl, Or.inr rfl, Or.inr rfl, Or.inl rfl, trivial⟩ w
    · rw [if_pos c] at w
      refine w_iload dX8_stepsTo_82 rfl ?_
      exact w_ireturn dX8_stepsTo_84 rfl rfl ⟨Nat.le_refl _, Nat.le_refl _⟩ w
set_option maxRecDepth 20000 in
set_option maxHeartbeats 4000000 in
theorem x_X8_splitOfChosen {G : pm_G} {d : Nat} {post : pm_PT} {h : pm_H} {l0 : Nat} (w :
    (h.1[l0]? = some (0, 8)) ∧
    (h.1[gp h l0 1]? = some (0, 0)) ∧
    cv G d m_X0_clear [.ref (gp h l0 1)] h fun h2 =>
    Wp G (m_X8_splitOfChosen, d + 1, 0, 0, post) (0, 0) 9 [.ref l0, .int 0] [] h2) :
    Wp G (m_X8_splitOfChosen, d + 1, 0, 0, post) (0, 0) 0 [.ref l0, .null] [] h := by
  refine w_aload_n dX8_splitOfChosen_0 rfl ?_
  obtain ⟨e1, w⟩ := w
  refine w_getp dX8_splitOfChosen_1 lk_RX8_43 e1 rfl ?_
  obtain ⟨e2, w⟩ := w
  refine w_callV (As := []) (st := []) dX8_splitOfChosen_4 mt_X0_clear g_1126 g_793 g_794 rfl e2 rfl rfl (Nat.le_of_ble_eq_true rfl) (Nat.le_refl _) ⟨Nat.le_refl _, Nat.le_refl _⟩ w ?_
  rintro v h2 ⟨rfl, w⟩
  refine w_iconst (v := 0) dX8_splitOfChosen_7 rfl ?_
  refine v_istore_n (l' := [.ref l0, .int 0]) dX8_splitOfChosen_8 (Nat.le_of_ble_eq_true rfl) rfl ?_
  exact w
set_option maxRecDepth 20000 in
set_option maxHeartbeats 4000000 in
theorem x_X8_splitOfChosen_9 {G : pm_G} {d : Nat} {post : pm_PT} {h : pm_H} {l0 : Nat} {l1 : Int32} (w :
    if 20 ≤ l1 then (
      (h.1[l0]? = some (0, 8)) ∧
      ci G d m_X8_greatestOfThird [.ref l0, .int 0] h fun r1 h2 =>
      post (some (.int r1)) h2
    ) else (
      (h.1[l0]? = some (0, 8)) ∧
      (h.1[gp h l0 4]? = some (0, 6)) ∧
      ci G d m_X6_at [.ref (gp h l0 4), .int l1] h fun r3 h4 =>
      if r3 = 1 then (
        (h4.1[l0]? = some (0, 8)) ∧
        (h4.1[gp h4 l0 1]? = some (0, 0)) ∧
        ci G d m_X0_putIn [.ref (gp h4 l0 1), .int l1, .int 0] h4 fun r5 h6 =>
        Wp G (m_X8_splitOfChosen, d + 1, 0, 0, post) (0, 0) 9 [.ref l0, .int (l1 + 1)] [] h6
      ) else (
        Wp G (m_X8_splitOfChosen, d + 1, 0, 0, post) (0, 0) 9 [.ref l0, .int (l1 + 1)] [] h4
      )
    )) :
    Wp G (m_X8_splitOfChosen, d + 1, 0, 0, post) (0, 0) 9 [.ref l0, .int l1] [] h := by
  refine w_iload_n dX8_splitOfChosen_9 rfl ?_
  refine w_bipush (v := 20) dX8_splitOfChosen_10 rfl ?_
  refine w_ic_ge (tgt := 43) dX8_splitOfChosen_12 rfl (fun c => ?_) (fun c => ?_)
  · rw [if_pos c] at w
    refine w_aload_n dX8_splitOfChosen_43 rfl ?_
    refine w_iconst (v := 0) dX8_splitOfChosen_44 rfl ?_
    obtain ⟨e1, w⟩ := w
    refine w_callV (As := [.int 0]) (st := []) dX8_splitOfChosen_45 mt_X8_greatestOfThird g_1107 g_1109 g_43 rfl e1 rfl rfl (Nat.le_of_ble_eq_true rfl) (Nat.le_refl _) ⟨Nat.le_refl _, Nat.le_refl _⟩ w ?_
    rintro v h2 ⟨r1, rfl, w⟩
    exact w_ireturn dX8_splitOfChosen_48 rfl rfl ⟨Nat.le_refl _, Nat.le_refl _⟩ w
  · rw [if_neg c] at w
    refine w_aload_n dX8_splitOfChosen_15 rfl ?_
    obtain ⟨e1, w⟩ := w
    refine w_getp dX8_splitOfChosen_16 lk_RX8_24 e1 rfl ?_
    refine w_iload_n dX8_splitOfChosen_19 rfl ?_
    obtain ⟨e2, w⟩ := w
    refine w_callV (As := [.int l1]) (st := []) dX8_splitOfChosen_20 mt_X6_at g_1025 g_724 g_725 rfl e2 rfl rfl (Nat.le_of_ble_eq_true rfl) (Nat.le_refl _) ⟨Nat.le_refl _, Nat.le_refl _⟩ w ?_
    rintro v h4 ⟨r3, rfl, w⟩
    refine w_iconst (v := 1) dX8_splitOfChosen_23 rfl ?_
    refine w_ic_ne (tgt := 37) dX8_splitOfChosen_24 rfl (fun c => ?_) (fun c => ?_)
    · rw [if_neg c] at w
      refine v_iinc (l' := [.ref l0, .int (l1 + 1)]) (v := l1 + 1) dX8_splitOfChosen_37 rfl rfl (Nat.le_of_ble_eq_true rfl) rfl ?_
      refine w_goto (tgt := 9) dX8_splitOfChosen_40 rfl ?_
      exact w
    · rw [if_pos c] at w
      refine w_aload_n dX8_splitOfChosen_27 rfl ?_
      obtain ⟨e1, w⟩ := w
      refine w_getp dX8_splitOfChosen_28 lk_RX8_43 e1 rfl ?_
      refine w_iload_n dX8_splitOfChosen_31 rfl ?_
      refine w_iconst (v := 0) dX8_splitOfChosen_32 rfl ?_
      obtain ⟨e2, w⟩ := w
      refine w_callV (As := [.int l1, .int 0]) (st := []) dX8_splitOfChosen_33 mt_X0_putIn g_1030 g_799 g_800 rfl e2 rfl rfl (Nat.le_of_ble_eq_true rfl) (Nat.le_refl _) ⟨Nat.le_refl _, Nat.le_refl _⟩ w ?_
      rintro v h6 ⟨r5, rfl, w⟩
      refine w_pop dX8_splitOfChosen_36 rfl ?_
      refine v_iinc (l' := [.ref l0, .int (l1 + 1)]) (v := l1 + 1) dX8_splitOfChosen_37 rfl rfl (Nat.le_of_ble_eq_true rfl) rfl ?_
      refine w_goto (tgt := 9) dX8_splitOfChosen_40 rfl ?_
      exact w
set_option maxRecDepth 20000 in
set_option maxHeartbeats 4000000 in
theorem x_X8_keepSide {G : pm_G} {d : Nat} {post : pm_PT} {h : pm_H} {l0 : Nat} {l1 : Int32} {l2 : Int32} (w :
    (h.1[l0]? = some (0, 8)) ∧
    (h.1[gp h l0 0]? = some (0, 4)) ∧
    ci G d m_X4_isAhead [.ref (gp h l0 0), .int l2, .int l1] h fun r1 h2 =>
    Wp G (m_X8_keepSide, d + 1, 0, 0, post) (0, 0) 13 [.ref l0, .int l1, .null, .int r1, .int 0] [] h2) :
    Wp G (m_X8_keepSide, d + 1, 0, 0, post) (0, 0) 0 [.ref l0, .int l1, .int l2, .null, .null] [] h := by
  refine w_aload_n dX8_keepSide_0 rfl ?_
  obtain ⟨e1, w⟩ := w
  refine w_getp dX8_keepSide_1 lk_RX8_34 e1 rfl ?_
  refine w_iload_n dX8_keepSide_4 rfl ?_
  refine w_iload_n dX8_keepSide_5 rfl ?_
  obtain ⟨e2, w⟩ := w
  refine w_callV (As := [.int l2, .int l1]) (st := []) dX8_keepSide_6 mt_X4_isAhead g_1078 g_1079 g_1080 rfl e2 rfl rfl (Nat.le_of_ble_eq_true rfl) (Nat.le_refl _) ⟨Nat.le_refl _, Nat.le_refl _⟩ w ?_
  rintro v h2 ⟨r1, rfl, w⟩
  refine v_istore_n (l' := [.ref l0, .int l1, .int l2, .int r1, .null]) dX8_keepSide_9 (Nat.le_of_ble_eq_true rfl) rfl ?_
  refine w_iconst (v := 0) dX8_keepSide_10 rfl ?_
  refine v_istore (l' := [.ref l0, .int l1, .int l2, .int r1, .int 0]) dX8_keepSide_11 (Nat.le_of_ble_eq_true rfl) rfl ?_
  exact w_drop (l' := [.ref l0, .int l1, .null, .int r1, .int 0]) ⟨Or.inr rfl, Or.inr rfl, Or.inl rfl, Or.inr rfl, Or.inr rfl, trivial⟩ w
set_option maxRecDepth 20000 in
set_option maxHeartbeats 4000000 in
theorem x_X8_keepSide_13 {G : pm_G} {d : Nat} {post : pm_PT} {h : pm_H} {l0 : Nat} {l1 : Int32} {l3 : Int32} {l4 : Int32} (w :
    if 20 ≤ l4 then (
      post none h
    ) else (
      if l4 = l1 then (
        (h.1[l0]? = some (0, 8)) ∧
        (h.1[gp h l0 4]? = some (0, 6)) ∧
        cv G d m_X6_set [.ref (gp h l0 4), .int l4, .int 0] h fun h2 =>
        Wp G (m_X8_keepSide, d + 1, 0, 0, post) (0, 0) 13 [.ref l0, .int l1, .null, .int l3, .int (l4 + 1)] [] h2
      ) else (
        (h.1[l0]? = some (0, 8)) ∧
        (h.1[gp h l0 0]? = some (0, 4)) ∧
        ci G d m_X4_isAhead [.ref (gp h l0 0), .int l4, .int l1] h fun r3 h4 =>
        if r3 = l3 then (
          Wp G (m_X8_keepSide, d + 1, 0, 0, post) (0, 0) 13 [.ref l0, .int l1, .null, .int l3, .int (l4 + 1)] [] h4
        ) else (
          (h4.1[l0]? = some (0, 8)) ∧
          (h4.1[gp h4 l0 4]? = some (0, 6)) ∧
          cv G d m_X6_set [.ref (gp h4 l0 4), .int l4, .int 0] h4 fun h6 =>
          Wp G (m_X8_keepSide, d + 1, 0, 0, post) (0, 0) 13 [.ref l0, .int l1, .null, .int l3, .int (l4 + 1)] [] h6
        )
      )
    )) :
    Wp G (m_X8_keepSide, d + 1, 0, 0, post) (0, 0) 13 [.ref l0, .int l1, .null, .int l3, .int l4] [] h := by
  refine w_iload dX8_keepSide_13 rfl ?_
  refine w_bipush (v := 20) dX8_keepSide_15 rfl ?_
  refine w_ic_ge (tgt := 56) dX8_keepSide_17 rfl (fun c => ?_) (fun c => ?_)
  · rw [if_pos c] at w
    exact w_return dX8_keepSide_56 rfl ⟨Nat.le_refl _, Nat.le_refl _⟩ w
  · rw [if_neg c] at w
    refine w_iload dX8_keepSide_20 rfl ?_
    refine w_iload_n dX8_keepSide_22 rfl ?_
    refine w_ic_eq (tgt := 40) dX8_keepSide_23 rfl (fun c => ?_) (fun c => ?_)
    · rw [if_pos c] at w
      refine w_aload_n dX8_keepSide_40 rfl ?_
      obtain ⟨e1, w⟩ := w
      refine w_getp dX8_keepSide_41 lk_RX8_24 e1 rfl ?_
      refine w_iload dX8_keepSide_44 rfl ?_
      refine w_iconst (v := 0) dX8_keepSide_46 rfl ?_
      obtain ⟨e2, w⟩ := w
      refine w_callV (As := [.int l4, .int 0]) (st := []) dX8_keepSide_47 mt_X6_set g_1056 g_667 g_668 rfl e2 rfl rfl (Nat.le_of_ble_eq_true rfl) (Nat.le_refl _) ⟨Nat.le_refl _, Nat.le_refl _⟩ w ?_
      rintro v h2 ⟨rfl, w⟩
      refine v_iinc (l' := [.ref l0, .int l1, .null, .int l3, .int (l4 + 1)]) (v := l4 + 1) dX8_keepSide_50 rfl rfl (Nat.le_of_ble_eq_true rfl) rfl ?_
      refine w_goto (tgt := 13) dX8_keepSide_53 rfl ?_
      exact w
    · rw [if_neg c] at w
      refine w_aload_n dX8_keepSide_26 rfl ?_
      obtain ⟨e1, w⟩ := w
      refine w_getp dX8_keepSide_27 lk_RX8_34 e1 rfl ?_
      refine w_iload dX8_keepSide_30 rfl ?_
      refine w_iload_n dX8_keepSide_32 rfl ?_
      obtain ⟨e2, w⟩ := w
      refine w_callV (As := [.int l4, .int l1]) (st := []) dX8_keepSide_33 mt_X4_isAhead g_1078 g_1079 g_1080 rfl e2 rfl rfl (Nat.le_of_ble_eq_true rfl) (Nat.le_refl _) ⟨Nat.le_refl _, Nat.le_refl _⟩ w ?_
      rintro v h4 ⟨r3, rfl, w⟩
      refine w_iload_n dX8_keepSide_36 rfl ?_
      refine w_ic_eq (tgt := 50) dX8_keepSide_37 rfl (fun c => ?_) (fun c => ?_)
      · rw [if_pos c] at w
        refine v_iinc (l' := [.ref l0, .int l1, .null, .int l3, .int (l4 + 1)]) (v := l4 + 1) dX8_keepSide_50 rfl rfl (Nat.le_of_ble_eq_true rfl) rfl ?_
        refine w_goto (tgt := 13) dX8_keepSide_53 rfl ?_
        exact w
      · rw [if_neg c] at w
        refine w_aload_n dX8_keepSide_40 rfl ?_
        obtain ⟨e1, w⟩ := w
        refine w_getp dX8_keepSide_41 lk_RX8_24 e1 rfl ?_
        refine w_iload dX8_keepSide_44 rfl ?_
        refine w_iconst (v := 0) dX8_keepSide_46 rfl ?_
        obtain ⟨e2, w⟩ := w
        refine w_callV (As := [.int l4, .int 0]) (st := []) dX8_keepSide_47 mt_X6_set g_1056 g_667 g_668 rfl e2 rfl rfl (Nat.le_of_ble_eq_true rfl) (Nat.le_refl _) ⟨Nat.le_refl _, Nat.le_refl _⟩ w ?_
        rintro v h6 ⟨rfl, w⟩
        refine v_iinc (l' := [.ref l0, .int l1, .null, .int l3, .int (l4 + 1)]) (v := l4 + 1) dX8_keepSide_50 rfl rfl (Nat.le_of_ble_eq_true rfl) rfl ?_
        refine w_goto (tgt := 13) dX8_keepSide_53 rfl ?_
        exact w
set_option maxRecDepth 20000 in
set_option maxHeartbeats 4000000 in
theorem x_X8_foresee {G : pm_G} {d : Nat} {post : pm_PT} {h : pm_H} {l0 : Nat} {l1 : Nat} (w :
    (h.1[l0]? = some (0, 8)) ∧
    (h.1[gp h l0 5]? = some (0, 6)) ∧
    cv G d m_X6_fill [.ref (gp h l0 5), .int (-1)] h fun h2 =>
    Wp G (m_X8_foresee, d + 1, 0, 0, post) (0, 0) 10 [.ref l0, .ref l1, .int 0, .null] [] h2) :
    Wp G (m_X8_foresee, d + 1, 0, 0, post) (0, 0) 0 [.ref l0, .ref l1, .null, .null] [] h := by
  refine w_aload_n dX8_foresee_0 rfl ?_
  obtain ⟨e1, w⟩ := w
  refine w_getp dX8_foresee_1 lk_RX8_27 e1 rfl ?_
  refine w_iconst (v := (-1)) dX8_foresee_4 rfl ?_
  obtain ⟨e2, w⟩ := w
  refine w_callV (As := [.int (-1)]) (st := []) dX8_foresee_5 mt_X6_fill g_1055 g_241 g_242 rfl e2 rfl rfl (Nat.le_of_ble_eq_true rfl) (Nat.le_refl _) ⟨Nat.le_refl _, Nat.le_refl _⟩ w ?_
  rintro v h2 ⟨rfl, w⟩
  refine w_iconst (v := 0) dX8_foresee_8 rfl ?_
  refine v_istore_n (l' := [.ref l0, .ref l1, .int 0, .null]) dX8_foresee_9 (Nat.le_of_ble_eq_true rfl) rfl ?_
  exact w
set_option maxRecDepth 20000 in
set_option maxHeartbeats 4000000 in
theorem x_X8_foresee_10 {G : pm_G} {d : Nat} {post : pm_PT} {h : pm_H} {l0 : Nat} {l1 : Nat} {l2 : Int32} (w :
    (h.1[l0]? = some (0, 8)) ∧
    (h.1[gp h l0 0]? = some (0, 4)) ∧
    (h.1[gp h (gp h l0 0) 0]? = some (0, 3)) ∧
    if (gi h (gp h (gp h l0 0) 0) 1) ≤ l2 then (
      post none h
    ) else (
      cv G d m_X8_takeAll [.ref l0, .ref l1, .int l2] h fun h2 =>
      Wp G (m_X8_foresee, d + 1, 0, 0, post) (0, 0) 32 [.ref l0, .ref l1, .int l2, .int 0] [] h2
    )) :
    Wp G (m_X8_foresee, d + 1, 0, 0, post) (0, 0) 10 [.ref l0, .ref l1, .int l2, .null] [] h := by
  refine w_iload_n dX8_foresee_10 rfl ?_
  refine w_aload_n dX8_foresee_11 rfl ?_
  obtain ⟨e1, w⟩ := w
  refine w_getp dX8_foresee_12 lk_RX8_34 e1 rfl ?_
  obtain ⟨e2, w⟩ := w
  refine w_getp dX8_foresee_15 lk_RX8_112 e2 rfl ?_
  obtain ⟨e3, w⟩ := w
  refine w_geti dX8_foresee_18 lk_RX8_116 e3 rfl ?_
  refine w_ic_ge (tgt := 89) dX8_foresee_21 rfl (fun c => ?_) (fun c => ?_)
  · rw [if_pos c] at w
    exact w_return dX8_foresee_89 rfl ⟨Nat.le_refl _, Nat.le_refl _⟩ w
  · rw [if_neg c] at w
    refine w_aload_n dX8_foresee_24 rfl ?_
    refine w_aload_n dX8_foresee_25 rfl ?_
    refine w_iload_n dX8_foresee_26 rfl ?_
    refine w_callV (As := [.ref l1, .int l2]) (st := []) dX8_foresee_27 mt_X8_takeAll g_1181 g_1051 g_1052 rfl e1 rfl rfl (Nat.le_of_ble_eq_true rfl) (Nat.le_refl _) ⟨Nat.le_refl _, Nat.le_refl _⟩ w ?_
    rintro v h2 ⟨rfl, w⟩
    refine w_iconst (v := 0) dX8_foresee_30 rfl ?_
    refine v_istore_n (l' := [.ref l0, .ref l1, .int l2, .int 0]) dX8_foresee_31 (Nat.le_of_ble_eq_true rfl) rfl ?_
    exact w
set_option maxRecDepth 20000 in
set_option maxHeartbeats 4000000 in
theorem x_X8_foresee_32 {G : pm_G} {d : Nat} {post : pm_PT} {h : pm_H} {l0 : Nat} {l1 : Nat} {l2 : Int32} {l3 : Int32} (w :
    if 10 ≤ l3 then (
      Wp G (m_X8_foresee, d + 1, 0, 0, post) (0, 0) 10 [.ref l0, .ref l1, .int (l2 + 1), .null] [] h
    ) else (
      (h.1[l0]? = some (0, 8)) ∧
      if (gi h l0 3) ≤ l3 then (
        Wp G (m_X8_foresee, d + 1, 0, 0, post) (0, 0) 10 [.ref l0, .ref l1, .int (l2 + 1), .null] [] h
      ) else (
        (h.1[gp h l0 0]? = some (0, 4)) ∧
        (h.1[gp h l0 2]? = some (0, 6)) ∧
        ci G d m_X6_at [.ref (gp h l0 2), .int l3] h fun r1 h2 =>
        (h2.1[gp h (gp h l0 0) 4]? = some (0, 6)) ∧
        ci G d m_X6_at [.ref (gp h (gp h l0 0) 4), .int r1] h2 fun r3 h4 =>
        (h4.1[gp h l0 5]? = some (0, 6)) ∧
        cv G d m_X6_set [.ref (gp h l0 5), .int ((l2 * 10) + l3), .int r3] h4 fun h6 =>
        Wp G (m_X8_foresee, d + 1, 0, 0, post) (0, 0) 32 [.ref l0, .ref l1, .int l2, .int (l3 + 1)] [] h6
      )
    )) :
    Wp G (m_X8_foresee, d + 1, 0, 0, post) (0, 0) 32 [.ref l0, .ref l1, .int l2, .int l3] [] h := by
  refine w_iload_n dX8_foresee_32 rfl ?_
  refine w_bipush (v := 10) dX8_foresee_33 rfl ?_
  refine w_ic_ge (tgt := 83) dX8_foresee_35 rfl (fun c => ?_) (fun c => ?_)
  · rw [if_pos c] at w
    refine v_iinc (l' := [.ref l0, .ref l1, .int (l2 + 1), .int l3]) (v := l2 + 1) dX8_foresee_83 rfl rfl (Nat.le_of_ble_eq_true rfl) rfl ?_
    refine w_goto (tgt := 10) dX8_foresee_86 rfl ?_
    exact w_drop (l' := [.ref l0, .ref l1, .int (l2 + 1), .null]) ⟨Or.inr rfl, Or.inr rfl, Or.inr rfl, Or.inl rfl, trivial⟩ w
  · rw [if_neg c] at w
    refine w_iload_n dX8_foresee_38 rfl ?_
    refine w_aload_n dX8_foresee_39 rfl ?_
    obtain ⟨e1, w⟩ := w
    refine w_geti dX8_foresee_40 lk_RX8_20 e1 rfl ?_
    refine w_ic_ge (tgt := 83) dX8_foresee_43 rfl (fun c => ?_) (fun c => ?_)
    · rw [if_pos c] at w
      refine v_iinc (l' := [.ref l0, .ref l1, .int (l2 + 1), .int l3]) (v := l2 + 1) dX8_foresee_83 rfl rfl (Nat.le_of_ble_eq_true rfl) rfl ?_
      refine w_goto (tgt := 10) dX8_foresee_86 rfl ?_
      exact w_drop (l' := [.ref l0, .ref l1, .int (l2 + 1), .null]) ⟨Or.inr rfl, Or.inr rfl, Or.inr rfl, Or.inl rfl, trivial⟩ w
    · rw [if_neg c] at w
      refine w_aload_n dX8_foresee_46 rfl ?_
      refine w_getp dX8_foresee_47 lk_RX8_27 e1 rfl ?_
      refine w_iload_n dX8_foresee_50 rfl ?_
      refine w_bipush (v := 10) dX8_foresee_51 rfl ?_
      refine w_imul dX8_foresee_53 ?_
      refine w_iload_n dX8_foresee_54 rfl ?_
      refine w_iadd dX8_foresee_55 ?_
      refine w_aload_n dX8_foresee_56 rfl ?_
      refine w_getp dX8_foresee_57 lk_RX8_34 e1 rfl ?_
      obtain ⟨e2, w⟩ := w
      refine w_getp dX8_foresee_60 lk_RX8_123 e2 rfl ?_
      refine w_aload_n dX8_foresee_63 rfl ?_
      refine w_getp dX8_foresee_64 lk_RX8_14 e1 rfl ?_
      refine w_iload_n dX8_foresee_67 rfl ?_
      obtain ⟨e3, w⟩ := w
      refine w_callV (As := [.int l3]) (st := [.ref (gp h (gp h l0 0) 4), .int ((l2 * 10) + l3), .ref (gp h l0 5)]) dX8_foresee_68 mt_X6_at g_1025 g_724 g_725 rfl e3 rfl rfl (Nat.le_of_ble_eq_true rfl) (Nat.le_refl _) ⟨Nat.le_refl _, Nat.le_refl _⟩ w ?_
      rintro v h2 ⟨r1, rfl, w⟩
      obtain ⟨e1, w⟩ := w
      refine w_callV (As := [.int r1]) (st := [.int ((l2 * 10) + l3), .ref (gp h l0 5)]) dX8_foresee_71 mt_X6_at g_1025 g_724 g_725 rfl e1 rfl rfl (Nat.le_of_ble_eq_true rfl) (Nat.le_refl _) ⟨Nat.le_refl _, Nat.le_refl _⟩ w ?_
      rintro v h4 ⟨r3, rfl, w⟩
      obtain ⟨e1, w⟩ := w
      refine w_callV (As := [.int ((l2 * 10) + l3), .int r3]) (st := []) dX8_foresee_74 mt_X6_set g_1056 g_667 g_668 rfl e1 rfl rfl (Nat.le_of_ble_eq_true rfl) (Nat.le_refl _) ⟨Nat.le_refl _, Nat.le_refl _⟩ w ?_
      rintro v h6 ⟨rfl, w⟩
      refine v_iinc (l' := [.ref l0, .ref l1, .int l2, .int (l3 + 1)]) (v := l3 + 1) dX8_foresee_77 rfl rfl (Nat.le_of_ble_eq_true rfl) rfl ?_
      refine w_goto (tgt := 32) dX8_foresee_80 rfl ?_
      exact w
set_option maxRecDepth 20000 in
set_option maxHeartbeats 4000000 in
theorem x_X8_gives {G : pm_G} {d : Nat} {post : pm_PT} {h : pm_H} {l0 : Nat} {l1 : Int32} {l2 : Int32} {l3 : Int32} (w :
    (h.1[l0]? = some (0, 8)) ∧
    (h.1[gp h l0 5]? = some (0, 6)) ∧
    ci G d m_X6_at [.ref (gp h l0 5), .int ((l1 * 10) + l2)] h fun r1 h2 =>
    if r1 = l3 then (
      post (some (.int 1)) h2
    ) else (
      post (some (.int 0)) h2
    )) :
    Wp G (m_X8_gives, d + 1, 0, 0, post) (0, 0) 0 [.ref l0, .int l1, .int l2, .int l3] [] h := by
  refine w_aload_n dX8_gives_0 rfl ?_
  obtain ⟨e1, w⟩ := w
  refine w_getp dX8_gives_1 lk_RX8_27 e1 rfl ?_
  refine w_iload_n dX8_gives_4 rfl ?_
  refine w_bipush (v := 10) dX8_gives_5 rfl ?_
  refine w_imul dX8_gives_7 ?_
  refine w_iload_n dX8_gives_8 rfl ?_
  refine w_iadd dX8_gives_9 ?_
  obtain ⟨e2, w⟩ := w
  refine w_callV (As := [.int ((l1 * 10) + l2)]) (st := []) dX8_gives_10 mt_X6_at g_1025 g_724 g_725 rfl e2 rfl rfl (Nat.le_of_ble_eq_true rfl) (Nat.le_refl _) ⟨Nat.le_refl _, Nat.le_refl _⟩ w ?_
  rintro v h2 ⟨r1, rfl, w⟩
  refine w_iload_n dX8_gives_13 rfl ?_
  refine w_ic_ne (tgt := 21) dX8_gives_14 rfl (fun c => ?_) (fun c => ?_)
  · rw [if_neg c] at w
    refine w_iconst (v := 0) dX8_gives_21 rfl ?_
    exact w_ireturn dX8_gives_22 rfl rfl ⟨Nat.le_refl _, Nat.le_refl _⟩ w
  · rw [if_pos c] at w
    refine w_iconst (v := 1) dX8_gives_17 rfl ?_
    refine w_goto (tgt := 22) dX8_gives_18 rfl ?_
    exact w_ireturn dX8_gives_22 rfl rfl ⟨Nat.le_refl _, Nat.le_refl _⟩ w
set_option maxRecDepth 20000 in
set_option maxHeartbeats 4000000 in
theorem x_X8_fitting {G : pm_G} {d : Nat} {post : pm_PT} {h : pm_H} {l0 : Nat} {l1 : Nat} {l2 : Int32} (w :
    Wp G (m_X8_fitting, d + 1, 0, 0, post) (0, 0) 5 [.ref l0, .ref l1, .int l2, .int 0, .int 0, .null, .null, .null] [] h) :
    Wp G (m_X8_fitting, d + 1, 0, 0, post) (0, 0) 0 [.ref l0, .ref l1, .int l2, .null, .null, .null, .null, .null] [] h := by
  refine w_iconst (v := 0) dX8_fitting_0 rfl ?_
  refine v_istore_n (l' := [.ref l0, .ref l1, .int l2, .int 0, .null, .null, .null, .null]) dX8_fitting_1 (Nat.le_of_ble_eq_true rfl) rfl ?_
  refine w_iconst (v := 0) dX8_fitting_2 rfl ?_
  refine v_istore (l' := [.ref l0, .ref l1, .int l2, .int 0, .int 0, .null, .null, .null]) dX8_fitting_3 (Nat.le_of_ble_eq_true rfl) rfl ?_
  exact w
set_option maxRecDepth 20000 in
set_option maxHeartbeats 4000000 in
theorem x_X8_fitting_5 {G : pm_G} {d : Nat} {post : pm_PT} {h : pm_H} {l0 : Nat} {l1 : Nat} {l2 : Int32} {l3 : Int32} {l4 : Int32} (w :
    (h.1[l0]? = some (0, 8)) ∧
    (h.1[gp h l0 0]? = some (0, 4)) ∧
    (h.1[gp h (gp h l0 0) 0]? = some (0, 3)) ∧
    if (gi h (gp h (gp h l0 0) 0) 1) ≤ l4 then (
      post (some (.int l3)) h
    ) else (
      Wp G (m_X8_fitting, d + 1, 0, 0, post) (0, 0) 26 [.ref l0, .ref l1, .int l2, .int l3, .int l4, .int 1, .int 0, .null] [] h
    )) :
    Wp G (m_X8_fitting, d + 1, 0, 0, post) (0, 0) 5 [.ref l0, .ref l1, .int l2, .int l3, .int l4, .null, .null, .null] [] h := by
  refine w_iload dX8_fitting_5 rfl ?_
  refine w_aload_n dX8_fitting_7 rfl ?_
  obtain ⟨e1, w⟩ := w
  refine w_getp dX8_fitting_8 lk_RX8_34 e1 rfl ?_
  obtain ⟨e2, w⟩ := w
  refine w_getp dX8_fitting_11 lk_RX8_112 e2 rfl ?_
  obtain ⟨e3, w⟩ := w
  refine w_geti dX8_fitting_14 lk_RX8_116 e3 rfl ?_
  refine w_ic_ge (tgt := 114) dX8_fitting_17 rfl (fun c => ?_) (fun c => ?_)
  · rw [if_pos c] at w
    refine w_iload_n dX8_fitting_114 rfl ?_
    exact w_ireturn dX8_fitting_115 rfl rfl ⟨Nat.le_refl _, Nat.le_refl _⟩ w
  · rw [if_neg c] at w
    refine w_iconst (v := 1) dX8_fitting_20 rfl ?_
    refine v_istore (l' := [.ref l0, .ref l1, .int l2, .int l3, .int l4, .int 1, .null, .null]) dX8_fitting_21 (Nat.le_of_ble_eq_true rfl) rfl ?_
    refine w_iconst (v := 0) dX8_fitting_23 rfl ?_
    refine v_istore (l' := [.ref l0, .ref l1, .int l2, .int l3, .int l4, .int 1, .int 0, .null]) dX8_fitting_24 (Nat.le_of_ble_eq_true rfl) rfl ?_
    exact w
set_option maxRecDepth 20000 in
set_option maxHeartbeats 4000000 in
theorem x_X8_fitting_26 {G : pm_G} {d : Nat} {post : pm_PT} {h : pm_H} {l0 : Nat} {l1 : Nat} {l2 : Int32} {l3 : Int32} {l4 : Int32} {l5 : Int32} {l6 : Int32} (w :
    if l2 ≤ l6 then (
      if l5 = 0 then (
        Wp G (m_X8_fitting, d + 1, 0, 0, post) (0, 0) 5 [.ref l0, .ref l1, .int l2, .int (l3 ||| 0), .int (l4 + 1), .null, .null, .null] [] h
      ) else (
        Wp G (m_X8_fitting, d + 1, 0, 0, post) (0, 0) 5 [.ref l0, .ref l1, .int l2, .int (l3 ||| ((1 : Int32) <<< (l4 &&& 31))), .int (l4 + 1), .null, .null, .null] [] h
      )
    ) else (
      (h.1[l1]? = some (0, 6)) ∧
      ci G d m_X6_at [.ref l1, .int l6] h fun r1 h2 =>
      if l5 = 0 then (
        Wp G (m_X8_fitting, d + 1, 0, 0, post) (0, 0) 26 [.ref l0, .ref l1, .int l2, .int l3, .int l4, .int 0, .int (l6 + 1), .null] [] h2
      ) else (
        (h2.1[l0]? = some (0, 8)) ∧
        ci G d m_X8_gives [.ref l0, .int l4, .int ((r1 / 2) / 4), .int ((r1 / 2) - (r1 / 2) / 4 * 4)] h2 fun r3 h4 =>
        if (r1 - r1 / 2 * 2) = 1 then (
          if r3 = 1 then (
            Wp G (m_X8_fitting, d + 1, 0, 0, post) (0, 0) 26 [.ref l0, .ref l1, .int l2, .int l3, .int l4, .int 1, .int (l6 + 1), .null] [] h4
          ) else (
            Wp G (m_X8_fitting, d + 1, 0, 0, post) (0, 0) 26 [.ref l0, .ref l1, .int l2, .int l3, .int l4, .int 0, .int (l6 + 1), .null] [] h4
          )
        ) else (
          if r3 = 0 then (
            Wp G (m_X8_fitting, d + 1, 0, 0, post) (0, 0) 26 [.ref l0, .ref l1, .int l2, .int l3, .int l4, .int 1, .int (l6 + 1), .null] [] h4
          ) else (
            Wp G (m_X8_fitting, d + 1, 0, 0, post) (0, 0) 26 [.ref l0, .ref l1, .int l2, .int l3, .int l4, .int 0, .int (l6 + 1), .null] [] h4
          )
        )
      )
    )) :
    Wp G (m_X8_fitting, d + 1, 0, 0, post) (0, 0) 26 [.ref l0, .ref l1, .int l2, .int l3, .int l4, .int l5, .int l6, .null] [] h := by
  refine w_iload dX8_fitting_26 rfl ?_
  refine w_iload_n dX8_fitting_28 rfl ?_
  refine w_ic_ge (tgt := 92) dX8_fitting_29 rfl (fun c => ?_) (fun c => ?_)
  · rw [if_pos c] at w
    refine w_iload_n dX8_fitting_92 rfl ?_
    refine w_iload dX8_fitting_93 rfl ?_
    refine w_if_eq (tgt := 105) dX8_fitting_95 rfl (fun c => ?_) (fun c => ?_)
    · rw [if_pos c] at w
      refine w_iconst (v := 0) dX8_fitting_105 rfl ?_
      refine w_ior dX8_fitting_106 ?_
      refine v_istore_n (l' := [.ref l0, .ref l1, .int l2, .int (l3 ||| 0), .int l4, .int l5, .int l6, .null]) dX8_fitting_107 (Nat.le_of_ble_eq_true rfl) rfl ?_
      refine v_iinc (l' := [.ref l0, .ref l1, .int l2, .int (l3 ||| 0), .int (l4 + 1), .int l5, .int l6, .null]) (v := l4 + 1) dX8_fitting_108 rfl rfl (Nat.le_of_ble_eq_true rfl) rfl ?_
      refine w_goto (tgt := 5) dX8_fitting_111 rfl ?_
      exact w_drop (l' := [.ref l0, .ref l1, .int l2, .int (l3 ||| 0), .int (l4 + 1), .null, .null, .null]) ⟨Or.inr rfl, Or.inr rfl, Or.inr rfl, Or.inr rfl, Or.inr rfl, Or.inl rfl, Or.inl rfl, Or.inl rfl, trivial⟩ w
    · rw [if_neg c] at w
      refine w_iconst (v := 1) dX8_fitting_98 rfl ?_
      refine w_iload dX8_fitting_99 rfl ?_
      refine w_ishl dX8_fitting_101 ?_
      refine w_goto (tgt := 106) dX8_fitting_102 rfl ?_
      refine w_ior dX8_fitting_106 ?_
      refine v_istore_n (l' := [.ref l0, .ref l1, .int l2, .int (l3 ||| ((1 : Int32) <<< (l4 &&& 31))), .int l4, .int l5, .int l6, .null]) dX8_fitting_107 (Nat.le_of_ble_eq_true rfl) rfl ?_
      refine v_iinc (l' := [.ref l0, .ref l1, .int l2, .int (l3 ||| ((1 : Int32) <<< (l4 &&& 31))), .int (l4 + 1), .int l5, .int l6, .null]) (v := l4 + 1) dX8_fitting_108 rfl rfl (Nat.le_of_ble_eq_true rfl) rfl ?_
      refine w_goto (tgt := 5) dX8_fitting_111 rfl ?_
      exact w_drop (l' := [.ref l0, .ref l1, .int l2, .int (l3 ||| ((1 : Int32) <<< (l4 &&& 31))), .int (l4 + 1), .null, .null, .null]) ⟨Or.inr rfl, Or.inr rfl, Or.inr rfl, Or.inr rfl, Or.inr rfl, Or.inl rfl, Or.inl rfl, Or.inl rfl, trivial⟩ w
  · rw [if_neg c] at w
    refine w_aload_n dX8_fitting_32 rfl ?_
    refine w_iload dX8_fitting_33 rfl ?_
    obtain ⟨e1, w⟩ := w
    refine w_callV (As := [.int l6]) (st := []) dX8_fitting_35 mt_X6_at g_1025 g_724 g_725 rfl e1 rfl rfl (Nat.le_of_ble_eq_true rfl) (Nat.le_refl _) ⟨Nat.le_refl _, Nat.le_refl _⟩ w ?_
    rintro v h2 ⟨r1, rfl, w⟩
    refine v_istore (l' := [.ref l0, .ref l1, .int l2, .int l3, .int l4, .int l5, .int l6, .int r1]) dX8_fitting_38 (Nat.le_of_ble_eq_true rfl) rfl ?_
    refine w_iload dX8_fitting_40 rfl ?_
    refine w_if_eq (tgt := 83) dX8_fitting_42 rfl (fun c => ?_) (fun c => ?_)
    · rw [if_pos c] at w
      refine w_iconst (v := 0) dX8_fitting_83 rfl ?_
      refine v_istore (l' := [.ref l0, .ref l1, .int l2, .int l3, .int l4, .int 0, .int l6, .int r1]) dX8_fitting_84 (Nat.le_of_ble_eq_true rfl) rfl ?_
      refine v_iinc (l' := [.ref l0, .ref l1, .int l2, .int l3, .int l4, .int 0, .int (l6 + 1), .int r1]) (v := l6 + 1) dX8_fitting_86 rfl rfl (Nat.le_of_ble_eq_true rfl) rfl ?_
      refine w_goto (tgt := 26) dX8_fitting_89 rfl ?_
      exact w_drop (l' := [.ref l0, .ref l1, .int l2, .int l3, .int l4, .int 0, .int (l6 + 1), .null]) ⟨Or.inr rfl, Or.inr rfl, Or.inr rfl, Or.inr rfl, Or.inr rfl, Or.inr rfl, Or.inr rfl, Or.inl rfl, trivial⟩ w
    · rw [if_neg c] at w
      refine w_aload_n dX8_fitting_45 rfl ?_
      refine w_iload dX8_fitting_46 rfl ?_
      refine w_iload dX8_fitting_48 rfl ?_
      refine w_iconst (v := 2) dX8_fitting_50 rfl ?_
      refine w_idiv dX8_fitting_51 (by decide) ?_
      refine w_iconst (v := 4) dX8_fitting_52 rfl ?_
      refine w_idiv dX8_fitting_53 (by decide) ?_
      refine w_iload dX8_fitting_54 rfl ?_
      refine w_iconst (v := 2) dX8_fitting_56 rfl ?_
      refine w_idiv dX8_fitting_57 (by decide) ?_
      refine w_iconst (v := 4) dX8_fitting_58 rfl ?_
      refine w_irem dX8_fitting_59 (by decide) ?_
      obtain ⟨e1, w⟩ := w
      refine w_callV (As := [.int l4, .int ((r1 / 2) / 4), .int ((r1 / 2) - (r1 / 2) / 4 * 4)]) (st := []) dX8_fitting_60 mt_X8_gives g_1186 g_1188 g_46 rfl e1 rfl rfl (Nat.le_of_ble_eq_true rfl) (Nat.le_refl _) ⟨Nat.le_refl _, Nat.le_refl _⟩ w ?_
      rintro v h4 ⟨r3, rfl, w⟩
      refine w_iload dX8_fitting_63 rfl ?_
      refine w_iconst (v := 2) dX8_fitting_65 rfl ?_
      refine w_irem dX8_fitting_66 (by decide) ?_
      refine w_iconst (v := 1) dX8_fitting_67 rfl ?_
      refine w_ic_ne (tgt := 75) dX8_fitting_68 rfl (fun c => ?_) (fun c => ?_)
      · rw [if_neg c] at w
        refine w_iconst (v := 0) dX8_fitting_75 rfl ?_
        refine w_ic_ne (tgt := 83) dX8_fitting_76 rfl (fun c => ?_) (fun c => ?_)
        · rw [if_neg c] at w
          refine w_iconst (v := 0) dX8_fitting_83 rfl ?_
          refine v_istore (l' := [.ref l0, .ref l1, .int l2, .int l3, .int l4, .int 0, .int l6, .int r1]) dX8_fitting_84 (Nat.le_of_ble_eq_true rfl) rfl ?_
          refine v_iinc (l' := [.ref l0, .ref l1, .int l2, .int l3, .int l4, .int 0, .int (l6 + 1), .int r1]) (v := l6 + 1) dX8_fitting_86 rfl rfl (Nat.le_of_ble_eq_true rfl) rfl ?_
          refine w_goto (tgt := 26) dX8_fitting_89 rfl ?_
          exact w_drop (l' := [.ref l0, .ref l1, .int l2, .int l3, .int l4, .int 0, .int (l6 + 1), .null]) ⟨Or.inr rfl, Or.inr rfl, Or.inr rfl, Or.inr rfl, Or.inr rfl, Or.inr rfl, Or.inr rfl, Or.inl rfl, trivial⟩ w
        · rw [if_pos c] at w
          refine w_iconst (v := 1) dX8_fitting_79 rfl ?_
          refine w_goto (tgt := 84) dX8_fitting_80 rfl ?_
          refine v_istore (l' := [.ref l0, .ref l1, .int l2, .int l3, .int l4, .int 1, .int l6, .int r1]) dX8_fitting_84 (Nat.le_of_ble_eq_true rfl) rfl ?_
          refine v_iinc (l' := [.ref l0, .ref l1, .int l2, .int l3, .int l4, .int 1, .int (l6 + 1), .int r1]) (v := l6 + 1) dX8_fitting_86 rfl rfl (Nat.le_of_ble_eq_true rfl) rfl ?_
          refine w_goto (tgt := 26) dX8_fitting_89 rfl ?_
          exact w_drop (l' := [.ref l0, .ref l1, .int l2, .int l3, .int l4, .int 1, .int (l6 + 1), .null]) ⟨Or.inr rfl, Or.inr rfl, Or.inr rfl, Or.inr rfl, Or.inr rfl, Or.inr rfl, Or.inr rfl, Or.inl rfl, trivial⟩ w
      · rw [if_pos c] at w
        refine w_iconst (v := 1) dX8_fitting_71 rfl ?_
        refine w_goto (tgt := 76) dX8_fitting_72 rfl ?_
        refine w_ic_ne (tgt := 83) dX8_fitting_76 rfl (fun c => ?_) (fun c => ?_)
        · rw [if_neg c] at w
          refine w_iconst (v := 0) dX8_fitting_83 rfl ?_
          refine v_istore (l' := [.ref l0, .ref l1, .int l2, .int l3, .int l4, .int 0, .int l6, .int r1]) dX8_fitting_84 (Nat.le_of_ble_eq_true rfl) rfl ?_
          refine v_iinc (l' := [.ref l0, .ref l1, .int l2, .int l3, .int l4, .int 0, .int (l6 + 1), .int r1]) (v := l6 + 1) dX8_fitting_86 rfl rfl (Nat.le_of_ble_eq_true rfl) rfl ?_
          refine w_goto (tgt := 26) dX8_fitting_89 rfl ?_
          exact w_drop (l' := [.ref l0, .ref l1, .int l2, .int l3, .int l4, .int 0, .int (l6 + 1), .null]) ⟨Or.inr rfl, Or.inr rfl, Or.inr rfl, Or.inr rfl, Or.inr rfl, Or.inr rfl, Or.inr rfl, Or.inl rfl, trivial⟩ w
        · rw [if_pos c] at w
          refine w_iconst (v := 1) dX8_fitting_79 rfl ?_
          refine w_goto (tgt := 84) dX8_fitting_80 rfl ?_
          refine v_istore (l' := [.ref l0, .ref l1, .int l2, .int l3, .int l4, .int 1, .int l6, .int r1]) dX8_fitting_84 (Nat.le_of_ble_eq_true rfl) rfl ?_
          refine v_iinc (l' := [.ref l0, .ref l1, .int l2, .int l3, .int l4, .int 1, .int (l6 + 1), .int r1]) (v := l6 + 1) dX8_fitting_86 rfl rfl (Nat.le_of_ble_eq_true rfl) rfl ?_
          refine w_goto (tgt := 26) dX8_fitting_89 rfl ?_
          exact w_drop (l' := [.ref l0, .ref l1, .int l2, .int l3, .int l4, .int 1, .int (l6 + 1), .null]) ⟨Or.inr rfl, Or.inr rfl, Or.inr rfl, Or.inr rfl, Or.inr rfl, Or.inr rfl, Or.inr rfl, Or.inl rfl, trivial⟩ w
set_option maxRecDepth 20000 in
set_option maxHeartbeats 4000000 in
theorem x_X8_bestQuestion {G : pm_G} {d : Nat} {post : pm_PT} {h : pm_H} {l0 : Nat} {l1 : Int32} (w :
    ci G d m_J6_bitCount_0f7a4 [.int l1] h fun r1 h2 =>
    Wp G (m_X8_bestQuestion, d + 1, 0, 0, post) (0, 0) 13 [.ref l0, .int l1, .int r1, .int r1, .int (-1), .int 0, .null, .null, .null] [] h2) :
    Wp G (m_X8_bestQuestion, d + 1, 0, 0, post) (0, 0) 0 [.ref l0, .int l1, .null, .null, .null, .null, .null, .null, .null] [] h := by
  refine w_iload_n dX8_bestQuestion_0 rfl ?_
  refine w_callS (As := [.int l1]) (st := []) dX8_bestQuestion_1 mt_J6_bitCount_0f7a4 g_1198 g_1199 rfl rfl (Nat.le_of_ble_eq_true rfl) (Nat.le_refl _) ⟨Nat.le_refl _, Nat.le_refl _⟩ w ?_
  rintro v h2 ⟨r1, rfl, w⟩
  refine v_istore_n (l' := [.ref l0, .int l1, .int r1, .null, .null, .null, .null, .null, .null]) dX8_bestQuestion_4 (Nat.le_of_ble_eq_true rfl) rfl ?_
  refine w_iload_n dX8_bestQuestion_5 rfl ?_
  refine v_istore_n (l' := [.ref l0, .int l1, .int r1, .int r1, .null, .null, .null, .null, .null]) dX8_bestQuestion_6 (Nat.le_of_ble_eq_true rfl) rfl ?_
  refine w_iconst (v := (-1)) dX8_bestQuestion_7 rfl ?_
  refine v_istore (l' := [.ref l0, .int l1, .int r1, .int r1, .int (-1), .null, .null, .null, .null]) dX8_bestQuestion_8 (Nat.le_of_ble_eq_true rfl) rfl ?_
  refine w_iconst (v := 0) dX8_bestQuestion_10 rfl ?_
  refine v_istore (l' := [.ref l0, .int l1, .int r1, .int r1, .int (-1), .int 0, .null, .null, .null]) dX8_bestQuestion_11 (Nat.le_of_ble_eq_true rfl) rfl ?_
  exact w
set_option maxRecDepth 20000 in
set_option maxHeartbeats 4000000 in
theorem x_X8_bestQuestion_13 {G : pm_G} {d : Nat} {post : pm_PT} {h : pm_H} {l0 : Nat} {l1 : Int32} {l2 : Int32} {l3 : Int32} {l4 : Int32} {l5 : Int32} (w :
    if 40 ≤ l5 then (
      post (some (.int l4)) h
    ) else (
      Wp G (m_X8_bestQuestion, d + 1, 0, 0, post) (0, 0) 26 [.ref l0, .int l1, .int l2, .int l3, .int l4, .int l5, .int 0, .int 0, .null] [] h
    )) :
    Wp G (m_X8_bestQuestion, d + 1, 0, 0, post) (0, 0) 13 [.ref l0, .int l1, .int l2, .int l3, .int l4, .int l5, .null, .null, .null] [] h := by
  refine w_iload dX8_bestQuestion_13 rfl ?_
  refine w_bipush (v := 40) dX8_bestQuestion_15 rfl ?_
  refine w_ic_ge (tgt := 126) dX8_bestQuestion_17 rfl (fun c => ?_) (fun c => ?_)
  · rw [if_pos c] at w
    refine w_iload dX8_bestQuestion_126 rfl ?_
    exact w_ireturn dX8_bestQuestion_128 rfl rfl ⟨Nat.le_refl _, Nat.le_refl _⟩ w
  · rw [if_neg c] at w
    refine w_iconst (v := 0) dX8_bestQuestion_20 rfl ?_
    refine v_istore (l' := [.ref l0, .int l1, .int l2, .int l3, .int l4, .int l5, .int 0, .null, .null]) dX8_bestQuestion_21 (Nat.le_of_ble_eq_true rfl) rfl ?_
    refine w_iconst (v := 0) dX8_bestQuestion_23 rfl ?_
    refine v_istore (l' := [.ref l0, .int l1, .int l2, .int l3, .int l4, .int l5, .int 0, .int 0, .null]) dX8_bestQuestion_24 (Nat.le_of_ble_eq_true rfl) rfl ?_
    exact w
set_option maxRecDepth 20000 in
set_option maxHeartbeats 4000000 in
theorem x_X8_bestQuestion_26 {G : pm_G} {d : Nat} {post : pm_PT} {h : pm_H} {l0 : Nat} {l1 : Int32} {l2 : Int32} {l3 : Int32} {l4 : Int32} {l5 : Int32} {l6 : Int32} {l7 : Int32} (w :
    (h.1[l0]? = some (0, 8)) ∧
    (h.1[gp h l0 0]? = some (0, 4)) ∧
    (h.1[gp h (gp h l0 0) 0]? = some (0, 3)) ∧
    if (gi h (gp h (gp h l0 0) 0) 1) ≤ l7 then (
      ci G d m_J9_max_7cf53 [.int l6, .int (l2 - l6)] h fun r1 h2 =>
      if l3 ≤ r1 then (
        Wp G (m_X8_bestQuestion, d + 1, 0, 0, post) (0, 0) 13 [.ref l0, .int l1, .int l2, .int l3, .int l4, .int (l5 + 1), .null, .null, .null] [] h2
      ) else (
        Wp G (m_X8_bestQuestion, d + 1, 0, 0, post) (0, 0) 13 [.ref l0, .int l1, .int l2, .int r1, .int l5, .int (l5 + 1), .null, .null, .null] [] h2
      )
    ) else (
      if ((l1 >>> (l7 &&& 31)) &&& 1) = 1 then (
        ci G d m_X8_gives [.ref l0, .int l7, .int (l5 / 4), .int (l5 - l5 / 4 * 4)] h fun r3 h4 =>
        if r3 = 0 then (
          Wp G (m_X8_bestQuestion, d + 1, 0, 0, post) (0, 0) 26 [.ref l0, .int l1, .int l2, .int l3, .int l4, .int l5, .int (l6 + 0), .int (l7 + 1), .null] [] h4
        ) else (
          Wp G (m_X8_bestQuestion, d + 1, 0, 0, post) (0, 0) 26 [.ref l0, .int l1, .int l2, .int l3, .int l4, .int l5, .int (l6 + 1), .int (l7 + 1), .null] [] h4
        )
      ) else (
        Wp G (m_X8_bestQuestion, d + 1, 0, 0, post) (0, 0) 26 [.ref l0, .int l1, .int l2, .int l3, .int l4, .int l5, .int (l6 + 0), .int (l7 + 1), .null] [] h
      )
    )) :
    Wp G (m_X8_bestQuestion, d + 1, 0, 0, post) (0, 0) 26 [.ref l0, .int l1, .int l2, .int l3, .int l4, .int l5, .int l6, .int l7, .null] [] h := by
  refine w_iload dX8_bestQuestion_26 rfl ?_
  refine w_aload_n dX8_bestQuestion_28 rfl ?_
  obtain ⟨e1, w⟩ := w
  refine w_getp dX8_bestQuestion_29 lk_RX8_34 e1 rfl ?_
  obtain ⟨e2, w⟩ := w
  refine w_getp dX8_bestQuestion_32 lk_RX8_112 e2 rfl ?_
  obtain ⟨e3, w⟩ := w
  refine w_geti dX8_bestQuestion_35 lk_RX8_116 e3 rfl ?_
  refine w_ic_ge (tgt := 96) dX8_bestQuestion_38 rfl (fun c => ?_) (fun c => ?_)
  · rw [if_pos c] at w
    refine w_iload dX8_bestQuestion_96 rfl ?_
    refine w_iload_n dX8_bestQuestion_98 rfl ?_
    refine w_iload dX8_bestQuestion_99 rfl ?_
    refine w_isub dX8_bestQuestion_101 ?_
    refine w_callS (As := [.int l6, .int (l2 - l6)]) (st := []) dX8_bestQuestion_102 mt_J9_max_7cf53 g_1085 g_819 rfl rfl (Nat.le_of_ble_eq_true rfl) (Nat.le_refl _) ⟨Nat.le_refl _, Nat.le_refl _⟩ w ?_
    rintro v h2 ⟨r1, rfl, w⟩
    refine v_istore (l' := [.ref l0, .int l1, .int l2, .int l3, .int l4, .int l5, .int l6, .int r1, .null]) dX8_bestQuestion_105 (Nat.le_of_ble_eq_true rfl) rfl ?_
    refine w_iload dX8_bestQuestion_107 rfl ?_
    refine w_iload_n dX8_bestQuestion_109 rfl ?_
    refine w_ic_ge (tgt := 120) dX8_bestQuestion_110 rfl (fun c => ?_) (fun c => ?_)
    · rw [if_pos c] at w
      refine v_iinc (l' := [.ref l0, .int l1, .int l2, .int l3, .int l4, .int (l5 + 1), .int l6, .int r1, .null]) (v := l5 + 1) dX8_bestQuestion_120 rfl rfl (Nat.le_of_ble_eq_true rfl) rfl ?_
      refine w_goto (tgt := 13) dX8_bestQuestion_123 rfl ?_
      exact w_drop (l' := [.ref l0, .int l1, .int l2, .int l3, .int l4, .int (l5 + 1), .null, .null, .null]) ⟨Or.inr rfl, Or.inr rfl, Or.inr rfl, Or.inr rfl, Or.inr rfl, Or.inr rfl, Or.inl rfl, Or.inl rfl, Or.inl rfl, trivial⟩ w
    · rw [if_neg c] at w
      refine w_iload dX8_bestQuestion_113 rfl ?_
      refine v_istore_n (l' := [.ref l0, .int l1, .int l2, .int r1, .int l4, .int l5, .int l6, .int r1, .null]) dX8_bestQuestion_115 (Nat.le_of_ble_eq_true rfl) rfl ?_
      refine w_iload dX8_bestQuestion_116 rfl ?_
      refine v_istore (l' := [.ref l0, .int l1, .int l2, .int r1, .int l5, .int l5, .int l6, .int r1, .null]) dX8_bestQuestion_118 (Nat.le_of_ble_eq_true rfl) rfl ?_
      refine v_iinc (l' := [.ref l0, .int l1, .int l2, .int r1, .int l5, .int (l5 + 1), .int l6, .int r1, .null]) (v := l5 + 1) dX8_bestQuestion_120 rfl rfl (Nat.le_of_ble_eq_true rfl) rfl ?_
      refine w_goto (tgt := 13) dX8_bestQuestion_123 rfl ?_
      exact w_drop (l' := [.ref l0, .int l1, .int l2, .int r1, .int l5, .int (l5 + 1), .null, .null, .null]) ⟨Or.inr rfl, Or.inr rfl, Or.inr rfl, Or.inr rfl, Or.inr rfl, Or.inr rfl, Or.inl rfl, Or.inl rfl, Or.inl rfl, trivial⟩ w
  · rw [if_neg c] at w
    refine w_iload_n dX8_bestQuestion_41 rfl ?_
    refine w_iload dX8_bestQuestion_42 rfl ?_
    refine w_ishr dX8_bestQuestion_44 ?_
    refine w_iconst (v := 1) dX8_bestQuestion_45 rfl ?_
    refine w_iand dX8_bestQuestion_46 ?_
    refine w_iconst (v := 1) dX8_bestQuestion_47 rfl ?_
    refine w_ic_ne (tgt := 55) dX8_bestQuestion_48 rfl (fun c => ?_) (fun c => ?_)
    · rw [if_neg c] at w
      refine w_iconst (v := 0) dX8_bestQuestion_55 rfl ?_
      refine v_istore (l' := [.ref l0, .int l1, .int l2, .int l3, .int l4, .int l5, .int l6, .int l7, .int 0]) dX8_bestQuestion_56 (Nat.le_of_ble_eq_true rfl) rfl ?_
      refine w_iload dX8_bestQuestion_58 rfl ?_
      refine w_iload dX8_bestQuestion_60 rfl ?_
      refine w_if_eq (tgt := 86) dX8_bestQuestion_62 rfl (fun c => ?_) (fun c => ?_)
      · refine w_iconst (v := 0) dX8_bestQuestion_86 rfl ?_
        refine w_iadd dX8_bestQuestion_87 ?_
        refine v_istore (l' := [.ref l0, .int l1, .int l2, .int l3, .int l4, .int l5, .int (l6 + 0), .int l7, .int 0]) dX8_bestQuestion_88 (Nat.le_of_ble_eq_true rfl) rfl ?_
        refine v_iinc (l' := [.ref l0, .int l1, .int l2, .int l3, .int l4, .int l5, .int (l6 + 0), .int (l7 + 1), .int 0]) (v := l7 + 1) dX8_bestQuestion_90 rfl rfl (Nat.le_of_ble_eq_true rfl) rfl ?_
        refine w_goto (tgt := 26) dX8_bestQuestion_93 rfl ?_
        exact w_drop (l' := [.ref l0, .int l1, .int l2, .int l3, .int l4, .int l5, .int (l6 + 0), .int (l7 + 1), .null]) ⟨Or.inr rfl, Or.inr rfl, Or.inr rfl, Or.inr rfl, Or.inr rfl, Or.inr rfl, Or.inr rfl, Or.inr rfl, Or.inl rfl, trivial⟩ w
      · exact absurd c (by decide)
    · rw [if_pos c] at w
      refine w_iconst (v := 1) dX8_bestQuestion_51 rfl ?_
      refine w_goto (tgt := 56) dX8_bestQuestion_52 rfl ?_
      refine v_istore (l' := [.ref l0, .int l1, .int l2, .int l3, .int l4, .int l5, .int l6, .int l7, .int 1]) dX8_bestQuestion_56 (Nat.le_of_ble_eq_true rfl) rfl ?_
      refine w_iload dX8_bestQuestion_58 rfl ?_
      refine w_iload dX8_bestQuestion_60 rfl ?_
      refine w_if_eq (tgt := 86) dX8_bestQuestion_62 rfl (fun c => ?_) (fun c => ?_)
      · exact absurd c (by decide)
      · refine w_aload_n dX8_bestQuestion_65 rfl ?_
        refine w_iload dX8_bestQuestion_66 rfl ?_
        refine w_iload dX8_bestQuestion_68 rfl ?_
        refine w_iconst (v := 4) dX8_bestQuestion_70 rfl ?_
        refine w_idiv dX8_bestQuestion_71 (by decide) ?_
        refine w_iload dX8_bestQuestion_72 rfl ?_
        refine w_iconst (v := 4) dX8_bestQuestion_74 rfl ?_
        refine w_irem dX8_bestQuestion_75 (by decide) ?_
        refine w_callV (As := [.int l7, .int (l5 / 4), .int (l5 - l5 / 4 * 4)]) (st := [.int l6]) dX8_bestQuestion_76 mt_X8_gives g_1186 g_1188 g_46 rfl e1 rfl rfl (Nat.le_of_ble_eq_true rfl) (Nat.le_refl _) ⟨Nat.le_refl _, Nat.le_refl _⟩ w ?_
        rintro v h4 ⟨r3, rfl, w⟩
        refine w_if_eq (tgt := 86) dX8_bestQuestion_79 rfl (fun c => ?_) (fun c => ?_)
        · rw [if_pos c] at w
          refine w_iconst (v := 0) dX8_bestQuestion_86 rfl ?_
          refine w_iadd dX8_bestQuestion_87 ?_
          refine v_istore (l' := [.ref l0, .int l1, .int l2, .int l3, .int l4, .int l5, .int (l6 + 0), .int l7, .int 1]) dX8_bestQuestion_88 (Nat.le_of_ble_eq_true rfl) rfl ?_
          refine v_iinc (l' := [.ref l0, .int l1, .int l2, .int l3, .int l4, .int l5, .int (l6 + 0), .int (l7 + 1), .int 1]) (v := l7 + 1) dX8_bestQuestion_90 rfl rfl (Nat.le_of_ble_eq_true rfl) rfl ?_
          refine w_goto (tgt := 26) dX8_bestQuestion_93 rfl ?_
          exact w_drop (l' := [.ref l0, .int l1, .int l2, .int l3, .int l4, .int l5, .int (l6 + 0), .int (l7 + 1), .null]) ⟨Or.inr rfl, Or.inr rfl, Or.inr rfl, Or.inr rfl, Or.inr rfl, Or.inr rfl, Or.inr rfl, Or.inr rfl, Or.inl rfl, trivial⟩ w
        · rw [if_neg c] at w
          refine w_iconst (v := 1) dX8_bestQuestion_82 rfl ?_
          refine w_goto (tgt := 87) dX8_bestQuestion_83 rfl ?_
          refine w_iadd dX8_bestQuestion_87 ?_
          refine v_istore (l' := [.ref l0, .int l1, .int l2, .int l3, .int l4, .int l5, .int (l6 + 1), .int l7, .int 1]) dX8_bestQuestion_88 (Nat.le_of_ble_eq_true rfl) rfl ?_
          refine v_iinc (l' := [.ref l0, .int l1, .int l2, .int l3, .int l4, .int l5, .int (l6 + 1), .int (l7 + 1), .int 1]) (v := l7 + 1) dX8_bestQuestion_90 rfl rfl (Nat.le_of_ble_eq_true rfl) rfl ?_
          refine w_goto (tgt := 26) dX8_bestQuestion_93 rfl ?_
          exact w_drop (l' := [.ref l0, .int l1, .int l2, .int l3, .int l4, .int l5, .int (l6 + 1), .int (l7 + 1), .null]) ⟨Or.inr rfl, Or.inr rfl, Or.inr rfl, Or.inr rfl, Or.inr rfl, Or.inr rfl, Or.inr rfl, Or.inr rfl, Or.inl rfl, trivial⟩ w
set_option maxRecDepth 20000 in
set_option maxHeartbeats 4000000 in
theorem x_X8_judge {G : pm_G} {d : Nat} {post : pm_PT} {h : pm_H} {l0 : Nat} {l1 : Nat} (w :
    (h.1[l0]? = some (0, 8)) ∧
    (h.1[gp h l0 1]? = some (0, 0)) ∧
    cv G d m_X0_tell [.ref (gp h l0 1)] h fun h2 =>
    Wp G (m_X8_judge, d + 1, 0, 0, post) (0, 0) 11 [.ref l0, .ref l1, .int (-1), .int 0, .null] [] h2) :
    Wp G (m_X8_judge, d + 1, 0, 0, post) (0, 0) 0 [.ref l0, .ref l1, .null, .null, .null] [] h := by
  refine w_aload_n dX8_judge_0 rfl ?_
  obtain ⟨e1, w⟩ := w
  refine w_getp dX8_judge_1 lk_RX8_43 e1 rfl ?_
  obtain ⟨e2, w⟩ := w
  refine w_callV (As := []) (st := []) dX8_judge_4 mt_X0_tell g_1024 g_789 g_790 rfl e2 rfl rfl (Nat.le_of_ble_eq_true rfl) (Nat.le_refl _) ⟨Nat.le_refl _, Nat.le_refl _⟩ w ?_
  rintro v h2 ⟨rfl, w⟩
  refine w_iconst (v := (-1)) dX8_judge_7 rfl ?_
  refine v_istore_n (l' := [.ref l0, .ref l1, .int (-1), .null, .null]) dX8_judge_8 (Nat.le_of_ble_eq_true rfl) rfl ?_
  refine w_iconst (v := 0) dX8_judge_9 rfl ?_
  refine v_istore_n (l' := [.ref l0, .ref l1, .int (-1), .int 0, .null]) dX8_judge_10 (Nat.le_of_ble_eq_true rfl) rfl ?_
  exact w
set_option maxRecDepth 20000 in
set_option maxHeartbeats 4000000 in
theorem x_X8_judge_11 {G : pm_G} {d : Nat} {post : pm_PT} {h : pm_H} {l0 : Nat} {l1 : Nat} {l2 : Int32} {l3 : Int32} (w :
    (h.1[l1]? = some (0, 9)) ∧
    if (gi h l1 3) ≤ l3 then (
      post (some (.int l2)) h
    ) else (
      (h.1[gp h l1 0]? = some (0, 6)) ∧
      ci G d m_X6_at [.ref (gp h l1 0), .int l3] h fun r1 h2 =>
      (h2.1[l1]? = some (0, 9)) ∧
      (h2.1[gp h2 l1 1]? = some (0, 6)) ∧
      ci G d m_X6_at [.ref (gp h2 l1 1), .int l3] h2 fun r3 h4 =>
      (h4.1[l1]? = some (0, 9)) ∧
      (h4.1[gp h4 l1 2]? = some (0, 6)) ∧
      ci G d m_X6_at [.ref (gp h4 l1 2), .int l3] h4 fun r5 h6 =>
      (h6.1[l0]? = some (0, 8)) ∧
      ci G d m_X8_doLine [.ref l0, .int r1, .int r3, .int r5] h6 fun r7 h8 =>
      if r7 = 0 then (
        if l2 = (-1) then (
          Wp G (m_X8_judge, d + 1, 0, 0, post) (0, 0) 11 [.ref l0, .ref l1, .int l3, .int (l3 + 1), .null] [] h8
        ) else (
          Wp G (m_X8_judge, d + 1, 0, 0, post) (0, 0) 11 [.ref l0, .ref l1, .int l2, .int (l3 + 1), .null] [] h8
        )
      ) else (
        Wp G (m_X8_judge, d + 1, 0, 0, post) (0, 0) 11 [.ref l0, .ref l1, .int l2, .int (l3 + 1), .null] [] h8
      )
    )) :
    Wp G (m_X8_judge, d + 1, 0, 0, post) (0, 0) 11 [.ref l0, .ref l1, .int l2, .int l3, .null] [] h := by
  refine w_iload_n dX8_judge_11 rfl ?_
  refine w_aload_n dX8_judge_12 rfl ?_
  obtain ⟨e1, w⟩ := w
  refine w_geti dX8_judge_13 lk_RX8_138 e1 rfl ?_
  refine w_ic_ge (tgt := 71) dX8_judge_16 rfl (fun c => ?_) (fun c => ?_)
  · rw [if_pos c] at w
    refine w_iload_n dX8_judge_71 rfl ?_
    exact w_ireturn dX8_judge_72 rfl rfl ⟨Nat.le_refl _, Nat.le_refl _⟩ w
  · rw [if_neg c] at w
    refine w_aload_n dX8_judge_19 rfl ?_
    refine w_aload_n dX8_judge_20 rfl ?_
    refine w_getp dX8_judge_21 lk_RX8_141 e1 rfl ?_
    refine w_iload_n dX8_judge_24 rfl ?_
    obtain ⟨e2, w⟩ := w
    refine w_callV (As := [.int l3]) (st := [.ref l0]) dX8_judge_25 mt_X6_at g_1025 g_724 g_725 rfl e2 rfl rfl (Nat.le_of_ble_eq_true rfl) (Nat.le_refl _) ⟨Nat.le_refl _, Nat.le_refl _⟩ w ?_
    rintro v h2 ⟨r1, rfl, w⟩
    refine w_aload_n dX8_judge_28 rfl ?_
    obtain ⟨e1, w⟩ := w
    refine w_getp dX8_judge_29 lk_RX8_144 e1 rfl ?_
    refine w_iload_n dX8_judge_32 rfl ?_
    obtain ⟨e2, w⟩ := w
    refine w_callV (As := [.int l3]) (st := [.int r1, .ref l0]) dX8_judge_33 mt_X6_at g_1025 g_724 g_725 rfl e2 rfl rfl (Nat.le_of_ble_eq_true rfl) (Nat.le_refl _) ⟨Nat.le_refl _, Nat.le_refl _⟩ w ?_
    rintro v h4 ⟨r3, rfl, w⟩
    refine w_aload_n dX8_judge_36 rfl ?_
    obtain ⟨e1, w⟩ := w
    refine w_getp dX8_judge_37 lk_RX8_147 e1 rfl ?_
    refine w_iload_n dX8_judge_40 rfl ?_
    obtain ⟨e2, w⟩ := w
    refine w_callV (As := [.int l3]) (st := [.int r3, .int r1, .ref l0]) dX8_judge_41 mt_X6_at g_1025 g_724 g_725 rfl e2 rfl rfl (Nat.le_of_ble_eq_true rfl) (Nat.le_refl _) ⟨Nat.le_refl _, Nat.le_refl _⟩ w ?_
    rintro v h6 ⟨r5, rfl, w⟩
    obtain ⟨e1, w⟩ := w
    refine w_callV (As := [.int r1, .int r3, .int r5]) (st := []) dX8_judge_44 mt_X8_doLine g_1026 g_1028 g_41 rfl e1 rfl rfl (Nat.le_of_ble_eq_true rfl) (Nat.le_refl _) ⟨Nat.le_refl _, Nat.le_refl _⟩ w ?_
    rintro v h8 ⟨r7, rfl, w⟩
    refine v_istore (l' := [.ref l0, .ref l1, .int l2, .int l3, .int r7]) dX8_judge_47 (Nat.le_of_ble_eq_true rfl) rfl ?_
    refine w_iload dX8_judge_49 rfl ?_
    refine w_if_ne (tgt := 63) dX8_judge_51 rfl (fun c => ?_) (fun c => ?_)
    · rw [if_neg c] at w
      refine w_iload_n dX8_judge_63 rfl ?_
      refine v_istore_n (l' := [.ref l0, .ref l1, .int l2, .int l3, .int r7]) dX8_judge_64 (Nat.le_of_ble_eq_true rfl) rfl ?_
      refine v_iinc (l' := [.ref l0, .ref l1, .int l2, .int (l3 + 1), .int r7]) (v := l3 + 1) dX8_judge_65 rfl rfl (Nat.le_of_ble_eq_true rfl) rfl ?_
      refine w_goto (tgt := 11) dX8_judge_68 rfl ?_
      exact w_drop (l' := [.ref l0, .ref l1, .int l2, .int (l3 + 1), .null]) ⟨Or.inr rfl, Or.inr rfl, Or.inr rfl, Or.inr rfl, Or.inl rfl, trivial⟩ w
    · rw [if_pos c] at w
      refine w_iload_n dX8_judge_54 rfl ?_
      refine w_iconst (v := (-1)) dX8_judge_55 rfl ?_
      refine w_ic_ne (tgt := 63) dX8_judge_56 rfl (fun c => ?_) (fun c => ?_)
      · rw [if_neg c] at w
        refine w_iload_n dX8_judge_63 rfl ?_
        refine v_istore_n (l' := [.ref l0, .ref l1, .int l2, .int l3, .int r7]) dX8_judge_64 (Nat.le_of_ble_eq_true rfl) rfl ?_
        refine v_iinc (l' := [.ref l0, .ref l1, .int l2, .int (l3 + 1), .int r7]) (v := l3 + 1) dX8_judge_65 rfl rfl (Nat.le_of_ble_eq_true rfl) rfl ?_
        refine w_goto (tgt := 11) dX8_judge_68 rfl ?_
        exact w_drop (l' := [.ref l0, .ref l1, .int l2, .int (l3 + 1), .null]) ⟨Or.inr rfl, Or.inr rfl, Or.inr rfl, Or.inr rfl, Or.inl rfl, trivial⟩ w
      · rw [if_pos c] at w
        refine w_iload_n dX8_judge_59 rfl ?_
        refine w_goto (tgt := 64) dX8_judge_60 rfl ?_
        refine v_istore_n (l' := [.ref l0, .ref l1, .int l3, .int l3, .int r7]) dX8_judge_64 (Nat.le_of_ble_eq_true rfl) rfl ?_
        refine v_iinc (l' := [.ref l0, .ref l1, .int l3, .int (l3 + 1), .int r7]) (v := l3 + 1) dX8_judge_65 rfl rfl (Nat.le_of_ble_eq_true rfl) rfl ?_
        refine w_goto (tgt := 11) dX8_judge_68 rfl ?_
        exact w_drop (l' := [.ref l0, .ref l1, .int l3, .int (l3 + 1), .null]) ⟨Or.inr rfl, Or.inr rfl, Or.inr rfl, Or.inr rfl, Or.inl rfl, trivial⟩ w
set_option maxRecDepth 20000 in
set_option maxHeartbeats 4000000 in
theorem x_X8_doLine {G : pm_G} {d : Nat} {post : pm_PT} {h : pm_H} {l0 : Nat} {l1 : Int32} {l2 : Int32} {l3 : Int32} (w :
    if l1 = 0 then (
      (h.1[l0]? = some (0, 8)) ∧
      (h.1[gp h l0 1]? = some (0, 0)) ∧
      ci G d m_X0_putIn [.ref (gp h l0 1), .int l2, .int l3] h fun r3 h4 =>
      (r3 = 0 ∨ r3 = 1) ∧
      post (some (.int r3)) h4
    ) else (
    if l1 = 1 then (
      (h.1[l0]? = some (0, 8)) ∧
      (h.1[gp h l0 1]? = some (0, 0)) ∧
      ci G d m_X0_takeFrom [.ref (gp h l0 1), .int l2] h fun r5 h6 =>
      if r5 = (-1) then (
        post (some (.int 0)) h6
      ) else (
        post (some (.int 1)) h6
      )
    ) else (
    if l1 = 2 then (
      (h.1[l0]? = some (0, 8)) ∧
      (h.1[gp h l0 1]? = some (0, 0)) ∧
      ci G d m_X0_meldInto [.ref (gp h l0 1), .int l2, .int l3] h fun r7 h8 =>
      (r7 = 0 ∨ r7 = 1) ∧
      post (some (.int r7)) h8
    ) else (
    (h.1[l0]? = some (0, 8)) ∧
    (h.1[gp h l0 1]? = some (0, 0)) ∧
    ci G d m_X0_shelveFrom [.ref (gp h l0 1), .int l2, .int l3] h fun r1 h2 =>
    if r1 = (-1) then (
      post (some (.int 0)) h2
    ) else (
      post (some (.int 1)) h2
    )
    )))) :
    Wp G (m_X8_doLine, d + 1, 0, 0, post) (0, 0) 0 [.ref l0, .int l1, .int l2, .int l3] [] h := by
  refine w_iload_n dX8_doLine_0 rfl ?_
  have sw : (l1 : Int32).toInt < 0 ∨ 2 < (l1 : Int32).toInt ∨ (l1 : Int32).toInt = 0 ∨ (l1 : Int32).toInt = 1 ∨ (l1 : Int32).toInt = 2 := by omega
  rcases sw with sw | sw | sw | sw | sw
  · refine w_tsw (tgt := 66) dX8_doLine_1 (by rw [if_pos (by first | exact Or.inl sw | exact Or.inr sw)]; rfl) (by first | exact Or.inl sw | exact Or.inr (Or.inl sw)) ?_
    rw [if_neg (fun q => by rw [q] at sw; revert sw; decide)] at w
    rw [if_neg (fun q => by rw [q] at sw; revert sw; decide)] at w
    rw [if_neg (fun q => by rw [q] at sw; revert sw; decide)] at w
    refine w_aload_n dX8_doLine_66 rfl ?_
    obtain ⟨e1, w⟩ := w
    refine w_getp dX8_doLine_67 lk_RX8_43 e1 rfl ?_
    refine w_iload_n dX8_doLine_70 rfl ?_
    refine w_iload_n dX8_doLine_71 rfl ?_
    obtain ⟨e2, w⟩ := w
    refine w_callV (As := [.int l2, .int l3]) (st := []) dX8_doLine_72 mt_X0_shelveFrom g_1033 g_1004 g_1005 rfl e2 rfl rfl (Nat.le_of_ble_eq_true rfl) (Nat.le_refl _) ⟨Nat.le_refl _, Nat.le_refl _⟩ w ?_
    rintro v h2 ⟨r1, rfl, w⟩
    refine w_iconst (v := (-1)) dX8_doLine_75 rfl ?_
    refine w_ic_eq (tgt := 83) dX8_doLine_76 rfl (fun c => ?_) (fun c => ?_)
    · rw [if_pos c] at w
      refine w_iconst (v := 0) dX8_doLine_83 rfl ?_
      exact w_ireturn dX8_doLine_84 rfl rfl ⟨Nat.le_refl _, Nat.le_refl _⟩ w
    · rw [if_neg c] at w
      refine w_iconst (v := 1) dX8_doLine_79 rfl ?_
      refine w_goto (tgt := 84) dX8_doLine_80 rfl ?_
      exact w_ireturn dX8_doLine_84 rfl rfl ⟨Nat.le_refl _, Nat.le_refl _⟩ w
  · refine w_tsw (tgt := 66) dX8_doLine_1 (by rw [if_pos (by first | exact Or.inl sw | exact Or.inr sw)]; rfl) (by first | exact Or.inl sw | exact Or.inr (Or.inl sw)) ?_
    rw [if_neg (fun q => by rw [q] at sw; revert sw; decide)] at w
    rw [if_neg (fun q => by rw [q] at sw; revert sw; decide)] at w
    rw [if_neg (fun q => by rw [q] at sw; revert sw; decide)] at w
    refine w_aload_n dX8_doLine_66 rfl ?_
    obtain ⟨e1, w⟩ := w
    refine w_getp dX8_doLine_67 lk_RX8_43 e1 rfl ?_
    refine w_iload_n dX8_doLine_70 rfl ?_
    refine w_iload_n dX8_doLine_71 rfl ?_
    obtain ⟨e2, w⟩ := w
    refine w_callV (As := [.int l2, .int l3]) (st := []) dX8_doLine_72 mt_X0_shelveFrom g_1033 g_1004 g_1005 rfl e2 rfl rfl (Nat.le_of_ble_eq_true rfl) (Nat.le_refl _) ⟨Nat.le_refl _, Nat.le_refl _⟩ w ?_
    rintro v h2 ⟨r1, rfl, w⟩
    refine w_iconst (v := (-1)) dX8_doLine_75 rfl ?_
    refine w_ic_eq (tgt := 83) dX8_doLine_76 rfl (fun c => ?_) (fun c => ?_)
    · rw [if_pos c] at w
      refine w_iconst (v := 0) dX8_doLine_83 rfl ?_
      exact w_ireturn dX8_doLine_84 rfl rfl ⟨Nat.le_refl _, Nat.le_refl _⟩ w
    · rw [if_neg c] at w
      refine w_iconst (v := 1) dX8_doLine_79 rfl ?_
      refine w_goto (tgt := 84) dX8_doLine_80 rfl ?_
      exact w_ireturn dX8_doLine_84 rfl rfl ⟨Nat.le_refl _, Nat.le_refl _⟩ w
  · have sv : (l1 : Int32) = 0 := Int32.toInt_inj.mp (sw.trans (by decide))
    refine w_tsw (tgt := 28) dX8_doLine_1 (by rw [sw]; rfl) (by rw [sw]; decide) ?_
    rw [if_pos sv] at w
    refine w_aload_n dX8_doLine_28 rfl ?_
    obtain ⟨e1, w⟩ := w
    refine w_getp dX8_doLine_29 lk_RX8_43 e1 rfl ?_
    refine w_iload_n dX8_doLine_32 rfl ?_
    refine w_iload_n dX8_doLine_33 rfl ?_
    obtain ⟨e2, w⟩ := w
    refine w_callV (As := [.int l2, .int l3]) (st := []) dX8_doLine_34 mt_X0_putIn g_1030 g_799 g_800 rfl e2 rfl rfl (Nat.le_of_ble_eq_true rfl) (Nat.le_refl _) ⟨Nat.le_refl _, Nat.le_refl _⟩ w ?_
    rintro v h4 ⟨r3, rfl, w⟩
    obtain ⟨e1, w⟩ := w
    exact w_ireturn dX8_doLine_37 rfl (pm_nz e1) ⟨Nat.le_refl _, Nat.le_refl _⟩ w
  · have sv : (l1 : Int32) = 1 := Int32.toInt_inj.mp (sw.trans (by decide))
    refine w_tsw (tgt := 38) dX8_doLine_1 (by rw [sw]; rfl) (by rw [sw]; decide) ?_
    rw [if_neg (fun q => by rw [q] at sw; revert sw; decide)] at w
    rw [if_pos sv] at w
    refine w_aload_n dX8_doLine_38 rfl ?_
    obtain ⟨e1, w⟩ := w
    refine w_getp dX8_doLine_39 lk_RX8_43 e1 rfl ?_
    refine w_iload_n dX8_doLine_42 rfl ?_
    obtain ⟨e2, w⟩ := w
    refine w_callV (As := [.int l2]) (st := []) dX8_doLine_43 mt_X0_takeFrom g_1031 g_984 g_985 rfl e2 rfl rfl (Nat.le_of_ble_eq_true rfl) (Nat.le_refl _) ⟨Nat.le_refl _, Nat.le_refl _⟩ w ?_
    rintro v h6 ⟨r5, rfl, w⟩
    refine w_iconst (v := (-1)) dX8_doLine_46 rfl ?_
    refine w_ic_eq (tgt := 54) dX8_doLine_47 rfl (fun c => ?_) (fun c => ?_)
    · rw [if_pos c] at w
      refine w_iconst (v := 0) dX8_doLine_54 rfl ?_
      exact w_ireturn dX8_doLine_55 rfl rfl ⟨Nat.le_refl _, Nat.le_refl _⟩ w
    · rw [if_neg c] at w
      refine w_iconst (v := 1) dX8_doLine_50 rfl ?_
      refine w_goto (tgt := 55) dX8_doLine_51 rfl ?_
      exact w_ireturn dX8_doLine_55 rfl rfl ⟨Nat.le_refl _, Nat.le_refl _⟩ w
  · have sv : (l1 : Int32) = 2 := Int32.toInt_inj.mp (sw.trans (by decide))
    refine w_tsw (tgt := 56) dX8_doLine_1 (by rw [sw]; rfl) (by rw [sw]; decide) ?_
    rw [if_neg (fun q => by rw [q] at sw; revert sw; decide)] at w
    rw [if_neg (fun q => by rw [q] at sw; revert sw; decide)] at w
    rw [if_pos sv] at w
    refine w_aload_n dX8_doLine_56 rfl ?_
    obtain ⟨e1, w⟩ := w
    refine w_getp dX8_doLine_57 lk_RX8_43 e1 rfl ?_
    refine w_iload_n dX8_doLine_60 rfl ?_
    refine w_iload_n dX8_doLine_61 rfl ?_
    obtain ⟨e2, w⟩ := w
    refine w_callV (As := [.int l2, .int l3]) (st := []) dX8_doLine_62 mt_X0_meldInto g_1032 g_996 g_997 rfl e2 rfl rfl (Nat.le_of_ble_eq_true rfl) (Nat.le_refl _) ⟨Nat.le_refl _, Nat.le_refl _⟩ w ?_
    rintro v h8 ⟨r7, rfl, w⟩
    obtain ⟨e1, w⟩ := w
    exact w_ireturn dX8_doLine_65 rfl (pm_nz e1) ⟨Nat.le_refl _, Nat.le_refl _⟩ w
set_option maxRecDepth 20000 in
set_option maxHeartbeats 4000000 in
theorem x_X8_live {G : pm_G} {d : Nat} {post : pm_PT} {h : pm_H} {l0 : Nat} {l1 : Nat} {l2 : Int32} {l3 : Int32} (w :
    (h.1[l0]? = some (0, 8)) ∧
    (h.1[gp h l0 1]? = some (0, 0)) ∧
    cv G d m_X0_copyFrom [.ref (gp h l0 1), .ref l1] h fun h2 =>
    (h2.1[l0]? = some (0, 8)) ∧
    ∀ h3 : pm_H, h3 = sl h2 l0 6 ((l2 : Int32).toInt64) →
    (h2.1[gp h3 l0 0]? = some (0, 4)) ∧
    (h2.1[gp h3 (gp h3 l0 0) 0]? = some (0, 3)) ∧
    (h2.1[gp h3 (gp h3 l0 0) 2]? = some (0, 3)) ∧
    Wp G (m_X8_live, d + 1, 0, 0, post) (0, 0) 44 [.ref l0, .null, .null, .int l3, .int (gi h3 (gp h3 (gp h3 l0 0) 0) 1), .int (gi h3 (gp h3 (gp h3 l0 0) 2) 1), .int 0, .int 0, .null, .null, .null, .null] [] h3) :
    Wp G (m_X8_live, d + 1, 0, 0, post) (0, 0) 0 [.ref l0, .ref l1, .int l2, .int l3, .null, .null, .null, .null, .null, .null, .null, .null] [] h := by
  refine w_aload_n dX8_live_0 rfl ?_
  obtain ⟨e1, w⟩ := w
  refine w_getp dX8_live_1 lk_RX8_43 e1 rfl ?_
  refine w_aload_n dX8_live_4 rfl ?_
  obtain ⟨e2, w⟩ := w
  refine w_callV (As := [.ref l1]) (st := []) dX8_live_5 mt_X0_copyFrom g_1054 g_973 g_974 rfl e2 rfl rfl (Nat.le_of_ble_eq_true rfl) (Nat.le_refl _) ⟨Nat.le_refl _, Nat.le_refl _⟩ w ?_
  rintro v h2 ⟨rfl, w⟩
  refine w_aload_n dX8_live_8 rfl ?_
  refine w_iload_n dX8_live_9 rfl ?_
  refine w_i2l dX8_live_10 ?_
  obtain ⟨e1, w⟩ := w
  refine w_putl dX8_live_11 lk_RX8_30 e1 rfl (Or.inl rfl) ?_
  have w := w _ rfl
  refine w_aload_n dX8_live_14 rfl ?_
  refine w_getp dX8_live_15 lk_RX8_34 e1 rfl ?_
  obtain ⟨e2, w⟩ := w
  refine w_getp dX8_live_18 lk_RX8_112 e2 rfl ?_
  obtain ⟨e3, w⟩ := w
  refine w_geti dX8_live_21 lk_RX8_116 e3 rfl ?_
  refine v_istore (l' := [.ref l0, .ref l1, .int l2, .int l3, .int (gi (sl h2 l0 6 ((l2 : Int32).toInt64)) (gp (sl h2 l0 6 ((l2 : Int32).toInt64)) (gp (sl h2 l0 6 ((l2 : Int32).toInt64)) l0 0) 0) 1), .null, .null, .null, .null, .null, .null, .null]) dX8_live_24 (Nat.le_of_ble_eq_true rfl) rfl ?_
  refine w_aload_n dX8_live_26 rfl ?_
  refine w_getp dX8_live_27 lk_RX8_34 e1 rfl ?_
  refine w_getp dX8_live_30 lk_RX8_159 e2 rfl ?_
  obtain ⟨e4, w⟩ := w
  refine w_geti dX8_live_33 lk_RX8_116 e4 rfl ?_
  refine v_istore (l' := [.ref l0, .ref l1, .int l2, .int l3, .int (gi (sl h2 l0 6 ((l2 : Int32).toInt64)) (gp (sl h2 l0 6 ((l2 : Int32).toInt64)) (gp (sl h2 l0 6 ((l2 : Int32).toInt64)) l0 0) 0) 1), .int (gi (sl h2 l0 6 ((l2 : Int32).toInt64)) (gp (sl h2 l0 6 ((l2 : Int32).toInt64)) (gp (sl h2 l0 6 ((l2 : Int32).toInt64)) l0 0) 2) 1), .null, .null, .null, .null, .null, .null]) dX8_live_36 (Nat.le_of_ble_eq_true rfl) rfl ?_
  refine w_iconst (v := 0) dX8_live_38 rfl ?_
  refine v_istore (l' := [.ref l0, .ref l1, .int l2, .int l3, .int (gi (sl h2 l0 6 ((l2 : Int32).toInt64)) (gp (sl h2 l0 6 ((l2 : Int32).toInt64)) (gp (sl h2 l0 6 ((l2 : Int32).toInt64)) l0 0) 0) 1), .int (gi (sl h2 l0 6 ((l2 : Int32).toInt64)) (gp (sl h2 l0 6 ((l2 : Int32).toInt64)) (gp (sl h2 l0 6 ((l2 : Int32).toInt64)) l0 0) 2) 1), .int 0, .null, .null, .null, .null, .null]) dX8_live_39 (Nat.le_of_ble_eq_true rfl) rfl ?_
  refine w_iconst (v := 0) dX8_live_41 rfl ?_
  refine v_istore (l' := [.ref l0, .ref l1, .int l2, .int l3, .int (gi (sl h2 l0 6 ((l2 : Int32).toInt64)) (gp (sl h2 l0 6 ((l2 : Int32).toInt64)) (gp (sl h2 l0 6 ((l2 : Int32).toInt64)) l0 0) 0) 1), .int (gi (sl h2 l0 6 ((l2 : Int32).toInt64)) (gp (sl h2 l0 6 ((l2 : Int32).toInt64)) (gp (sl h2 l0 6 ((l2 : Int32).toInt64)) l0 0) 2) 1), .int 0, .int 0, .null, .null, .null, .null]) dX8_live_42 (Nat.le_of_ble_eq_true rfl) rfl ?_
  exact w_drop (l' := [.ref l0, .null, .null, .int l3, .int (gi (sl h2 l0 6 ((l2 : Int32).toInt64)) (gp (sl h2 l0 6 ((l2 : Int32).toInt64)) (gp (sl h2 l0 6 ((l2 : Int32).toInt64)) l0 0) 0) 1), .int (gi (sl h2 l0 6 ((l2 : Int32).toInt64)) (gp (sl h2 l0 6 ((l2 : Int32).toInt64)) (gp (sl h2 l0 6 ((l2 : Int32).toInt64)) l0 0) 2) 1), .int 0, .int 0, .null, .null, .null, .null]) ⟨Or.inr rfl, Or.inl rfl, Or.inl rfl, Or.inr rfl, Or.inr rfl, Or.inr rfl, Or.inr rfl, Or.inr rfl, Or.inl rfl, Or.inl rfl, Or.inl rfl, Or.inl rfl, trivial⟩ w
set_option maxRecDepth 20000 in
set_option maxHeartbeats 4000000 in
theorem x_X8_live_44 {G : pm_G} {d : Nat} {post : pm_PT} {h : pm_H} {l0 : Nat} {l3 : Int32} {l4 : Int32} {l5 : Int32} {l6 : Int32} {l7 : Int32} (w :
    if l3 ≤ l7 then (
      post (some (.int l6)) h
    ) else (
      if l4 ≤ 0 then (
        post (some (.int l6)) h
      ) else (
        if l5 ≤ 0 then (
          post (some (.int l6)) h
        ) else (
          (h.1[l0]? = some (0, 8)) ∧
          ci G d m_X8_drawBelow [.ref l0, .int l4] h fun r1 h2 =>
          (h2.1[l0]? = some (0, 8)) ∧
          ci G d m_X8_drawBelow [.ref l0, .int l5] h2 fun r3 h4 =>
          (h4.1[l0]? = some (0, 8)) ∧
          ci G d m_X8_drawBelow [.ref l0, .int 4] h4 fun r5 h6 =>
          if 2 ≤ r5 then (
            if r5 = 2 then (
              (h6.1[l0]? = some (0, 8)) ∧
              (h6.1[gp h6 l0 1]? = some (0, 0)) ∧
              ci G d m_X0_takeFrom [.ref (gp h6 l0 1), .int r1] h6 fun r7 h8 =>
              if r7 = (-1) then (
                Wp G (m_X8_live, d + 1, 0, 0, post) (0, 0) 44 [.ref l0, .null, .null, .int l3, .int l4, .int l5, .int (l6 + 0), .int (l7 + 1), .null, .null, .null, .null] [] h8
              ) else (
                Wp G (m_X8_live, d + 1, 0, 0, post) (0, 0) 44 [.ref l0, .null, .null, .int l3, .int l4, .int l5, .int (l6 + 1), .int (l7 + 1), .null, .null, .null, .null] [] h8
              )
            ) else (
              (h6.1[l0]? = some (0, 8)) ∧
              if l4 ≤ (r1 + 1) then (
                (h6.1[gp h6 l0 1]? = some (0, 0)) ∧
                ci G d m_X0_meldInto [.ref (gp h6 l0 1), .int r1, .int 0] h6 fun r9 h10 =>
                if r9 = 0 then (
                  Wp G (m_X8_live, d + 1, 0, 0, post) (0, 0) 44 [.ref l0, .null, .null, .int l3, .int l4, .int l5, .int (l6 + 0), .int (l7 + 1), .null, .null, .null, .null] [] h10
                ) else (
                  Wp G (m_X8_live, d + 1, 0, 0, post) (0, 0) 44 [.ref l0, .null, .null, .int l3, .int l4, .int l5, .int (l6 + 1), .int (l7 + 1), .null, .null, .null, .null] [] h10
                )
              ) else (
                (h6.1[gp h6 l0 1]? = some (0, 0)) ∧
                ci G d m_X0_meldInto [.ref (gp h6 l0 1), .int r1, .int (r1 + 1)] h6 fun r11 h12 =>
                if r11 = 0 then (
                  Wp G (m_X8_live, d + 1, 0, 0, post) (0, 0) 44 [.ref l0, .null, .null, .int l3, .int l4, .int l5, .int (l6 + 0), .int (l7 + 1), .null, .null, .null, .null] [] h12
                ) else (
                  Wp G (m_X8_live, d + 1, 0, 0, post) (0, 0) 44 [.ref l0, .null, .null, .int l3, .int l4, .int l5, .int (l6 + 1), .int (l7 + 1), .null, .null, .null, .null] [] h12
                )
              )
            )
          ) else (
            (h6.1[l0]? = some (0, 8)) ∧
            (h6.1[gp h6 l0 1]? = some (0, 0)) ∧
            ci G d m_X0_putIn [.ref (gp h6 l0 1), .int r3, .int r1] h6 fun r13 h14 =>
            if r13 = 0 then (
              Wp G (m_X8_live, d + 1, 0, 0, post) (0, 0) 44 [.ref l0, .null, .null, .int l3, .int l4, .int l5, .int (l6 + 0), .int (l7 + 1), .null, .null, .null, .null] [] h14
            ) else (
              Wp G (m_X8_live, d + 1, 0, 0, post) (0, 0) 44 [.ref l0, .null, .null, .int l3, .int l4, .int l5, .int (l6 + 1), .int (l7 + 1), .null, .null, .null, .null] [] h14
            )
          )
        )
      )
    )) :
    Wp G (m_X8_live, d + 1, 0, 0, post) (0, 0) 44 [.ref l0, .null, .null, .int l3, .int l4, .int l5, .int l6, .int l7, .null, .null, .null, .null] [] h := by
  refine w_iload dX8_live_44 rfl ?_
  refine w_iload_n dX8_live_46 rfl ?_
  refine w_ic_ge (tgt := 183) dX8_live_47 rfl (fun c => ?_) (fun c => ?_)
  · rw [if_pos c] at w
    refine w_iload dX8_live_183 rfl ?_
    exact w_ireturn dX8_live_185 rfl rfl ⟨Nat.le_refl _, Nat.le_refl _⟩ w
  · rw [if_neg c] at w
    refine w_iload dX8_live_50 rfl ?_
    refine w_if_le (tgt := 183) dX8_live_52 rfl (fun c => ?_) (fun c => ?_)
    · rw [if_pos c] at w
      refine w_iload dX8_live_183 rfl ?_
      exact w_ireturn dX8_live_185 rfl rfl ⟨Nat.le_refl _, Nat.le_refl _⟩ w
    · rw [if_neg c] at w
      refine w_iload dX8_live_55 rfl ?_
      refine w_if_le (tgt := 183) dX8_live_57 rfl (fun c => ?_) (fun c => ?_)
      · rw [if_pos c] at w
        refine w_iload dX8_live_183 rfl ?_
        exact w_ireturn dX8_live_185 rfl rfl ⟨Nat.le_refl _, Nat.le_refl _⟩ w
      · rw [if_neg c] at w
        refine w_aload_n dX8_live_60 rfl ?_
        refine w_iload dX8_live_61 rfl ?_
        obtain ⟨e1, w⟩ := w
        refine w_callV (As := [.int l4]) (st := []) dX8_live_63 mt_X8_drawBelow g_1212 g_1214 g_47 rfl e1 rfl rfl (Nat.le_of_ble_eq_true rfl) (Nat.le_refl _) ⟨Nat.le_refl _, Nat.le_refl _⟩ w ?_
        rintro v h2 ⟨r1, rfl, w⟩
        refine v_istore (l' := [.ref l0, .null, .null, .int l3, .int l4, .int l5, .int l6, .int l7, .int r1, .null, .null, .null]) dX8_live_66 (Nat.le_of_ble_eq_true rfl) rfl ?_
        refine w_aload_n dX8_live_68 rfl ?_
        refine w_iload dX8_live_69 rfl ?_
        obtain ⟨e1, w⟩ := w
        refine w_callV (As := [.int l5]) (st := []) dX8_live_71 mt_X8_drawBelow g_1212 g_1214 g_47 rfl e1 rfl rfl (Nat.le_of_ble_eq_true rfl) (Nat.le_refl _) ⟨Nat.le_refl _, Nat.le_refl _⟩ w ?_
        rintro v h4 ⟨r3, rfl, w⟩
        refine v_istore (l' := [.ref l0, .null, .null, .int l3, .int l4, .int l5, .int l6, .int l7, .int r1, .int r3, .null, .null]) dX8_live_74 (Nat.le_of_ble_eq_true rfl) rfl ?_
        refine w_aload_n dX8_live_76 rfl ?_
        refine w_iconst (v := 4) dX8_live_77 rfl ?_
        obtain ⟨e1, w⟩ := w
        refine w_callV (As := [.int 4]) (st := []) dX8_live_78 mt_X8_drawBelow g_1212 g_1214 g_47 rfl e1 rfl rfl (Nat.le_of_ble_eq_true rfl) (Nat.le_refl _) ⟨Nat.le_refl _, Nat.le_refl _⟩ w ?_
        rintro v h6 ⟨r5, rfl, w⟩
        refine v_istore (l' := [.ref l0, .null, .null, .int l3, .int l4, .int l5, .int l6, .int l7, .int r1, .int r3, .int r5, .null]) dX8_live_81 (Nat.le_of_ble_eq_true rfl) rfl ?_
        refine w_iload dX8_live_83 rfl ?_
        refine w_iconst (v := 2) dX8_live_85 rfl ?_
        refine w_ic_ge (tgt := 105) dX8_live_86 rfl (fun c => ?_) (fun c => ?_)
        · rw [if_pos c] at w
          refine w_iload dX8_live_105 rfl ?_
          refine w_iconst (v := 2) dX8_live_107 rfl ?_
          refine w_ic_ne (tgt := 134) dX8_live_108 rfl (fun c => ?_) (fun c => ?_)
          · rw [if_neg c] at w
            refine w_aload_n dX8_live_134 rfl ?_
            obtain ⟨e1, w⟩ := w
            refine w_getp dX8_live_135 lk_RX8_43 e1 rfl ?_
            refine w_iload dX8_live_138 rfl ?_
            refine w_iload dX8_live_140 rfl ?_
            refine w_iconst (v := 1) dX8_live_142 rfl ?_
            refine w_iadd dX8_live_143 ?_
            refine w_iload dX8_live_144 rfl ?_
            refine w_ic_ge (tgt := 156) dX8_live_146 rfl (fun c => ?_) (fun c => ?_)
            · rw [if_pos c] at w
              refine w_iconst (v := 0) dX8_live_156 rfl ?_
              obtain ⟨e2, w⟩ := w
              refine w_callV (As := [.int r1, .int 0]) (st := []) dX8_live_157 mt_X0_meldInto g_1032 g_996 g_997 rfl e2 rfl rfl (Nat.le_of_ble_eq_true rfl) (Nat.le_refl _) ⟨Nat.le_refl _, Nat.le_refl _⟩ w ?_
              rintro v h10 ⟨r9, rfl, w⟩
              refine v_istore (l' := [.ref l0, .null, .null, .int l3, .int l4, .int l5, .int l6, .int l7, .int r1, .int r3, .int r5, .int r9]) dX8_live_160 (Nat.le_of_ble_eq_true rfl) rfl ?_
              refine w_iload dX8_live_162 rfl ?_
              refine w_iload dX8_live_164 rfl ?_
              refine w_if_eq (tgt := 173) dX8_live_166 rfl (fun c => ?_) (fun c => ?_)
              · rw [if_pos c] at w
                refine w_iconst (v := 0) dX8_live_173 rfl ?_
                refine w_iadd dX8_live_174 ?_
                refine v_istore (l' := [.ref l0, .null, .null, .int l3, .int l4, .int l5, .int (l6 + 0), .int l7, .int r1, .int r3, .int r5, .int r9]) dX8_live_175 (Nat.le_of_ble_eq_true rfl) rfl ?_
                refine v_iinc (l' := [.ref l0, .null, .null, .int l3, .int l4, .int l5, .int (l6 + 0), .int (l7 + 1), .int r1, .int r3, .int r5, .int r9]) (v := l7 + 1) dX8_live_177 rfl rfl (Nat.le_of_ble_eq_true rfl) rfl ?_
                refine w_goto (tgt := 44) dX8_live_180 rfl ?_
                exact w_drop (l' := [.ref l0, .null, .null, .int l3, .int l4, .int l5, .int (l6 + 0), .int (l7 + 1), .null, .null, .null, .null]) ⟨Or.inr rfl, Or.inl rfl, Or.inl rfl, Or.inr rfl, Or.inr rfl, Or.inr rfl, Or.inr rfl, Or.inr rfl, Or.inl rfl, Or.inl rfl, Or.inl rfl, Or.inl rfl, trivial⟩ w
              · rw [if_neg c] at w
                refine w_iconst (v := 1) dX8_live_169 rfl ?_
                refine w_goto (tgt := 174) dX8_live_170 rfl ?_
                refine w_iadd dX8_live_174 ?_
                refine v_istore (l' := [.ref l0, .null, .null, .int l3, .int l4, .int l5, .int (l6 + 1), .int l7, .int r1, .int r3, .int r5, .int r9]) dX8_live_175 (Nat.le_of_ble_eq_true rfl) rfl ?_
                refine v_iinc (l' := [.ref l0, .null, .null, .int l3, .int l4, .int l5, .int (l6 + 1), .int (l7 + 1), .int r1, .int r3, .int r5, .int r9]) (v := l7 + 1) dX8_live_177 rfl rfl (Nat.le_of_ble_eq_true rfl) rfl ?_
                refine w_goto (tgt := 44) dX8_live_180 rfl ?_
                exact w_drop (l' := [.ref l0, .null, .null, .int l3, .int l4, .int l5, .int (l6 + 1), .int (l7 + 1), .null, .null, .null, .null]) ⟨Or.inr rfl, Or.inl rfl, Or.inl rfl, Or.inr rfl, Or.inr rfl, Or.inr rfl, Or.inr rfl, Or.inr rfl, Or.inl rfl, Or.inl rfl, Or.inl rfl, Or.inl rfl, trivial⟩ w
            · rw [if_neg c] at w
              refine w_iload dX8_live_149 rfl ?_
              refine w_iconst (v := 1) dX8_live_151 rfl ?_
              refine w_iadd dX8_live_152 ?_
              refine w_goto (tgt := 157) dX8_live_153 rfl ?_
              obtain ⟨e2, w⟩ := w
              refine w_callV (As := [.int r1, .int (r1 + 1)]) (st := []) dX8_live_157 mt_X0_meldInto g_1032 g_996 g_997 rfl e2 rfl rfl (Nat.le_of_ble_eq_true rfl) (Nat.le_refl _) ⟨Nat.le_refl _, Nat.le_refl _⟩ w ?_
              rintro v h12 ⟨r11, rfl, w⟩
              refine v_istore (l' := [.ref l0, .null, .null, .int l3, .int l4, .int l5, .int l6, .int l7, .int r1, .int r3, .int r5, .int r11]) dX8_live_160 (Nat.le_of_ble_eq_true rfl) rfl ?_
              refine w_iload dX8_live_162 rfl ?_
              refine w_iload dX8_live_164 rfl ?_
              refine w_if_eq (tgt := 173) dX8_live_166 rfl (fun c => ?_) (fun c => ?_)
              · rw [if_pos c] at w
                refine w_iconst (v := 0) dX8_live_173 rfl ?_
                refine w_iadd dX8_live_174 ?_
                refine v_istore (l' := [.ref l0, .null, .null, .int l3, .int l4, .int l5, .int (l6 + 0), .int l7, .int r1, .int r3, .int r5, .int r11]) dX8_live_175 (Nat.le_of_ble_eq_true rfl) rfl ?_
                refine v_iinc (l' := [.ref l0, .null, .null, .int l3, .int l4, .int l5, .int (l6 + 0), .int (l7 + 1), .int r1, .int r3, .int r5, .int r11]) (v := l7 + 1) dX8_live_177 rfl rfl (Nat.le_of_ble_eq_true rfl) rfl ?_
                refine w_goto (tgt := 44) dX8_live_180 rfl ?_
                exact w_drop (l' := [.ref l0, .null, .null, .int l3, .int l4, .int l5, .int (l6 + 0), .int (l7 + 1), .null, .null, .null, .null]) ⟨Or.inr rfl, Or.inl rfl, Or.inl rfl, Or.inr rfl, Or.inr rfl, Or.inr rfl, Or.inr rfl, Or.inr rfl, Or.inl rfl, Or.inl rfl, Or.inl rfl, Or.inl rfl, trivial⟩ w
              · rw [if_neg c] at w
                refine w_iconst (v := 1) dX8_live_169 rfl ?_
                refine w_goto (tgt := 174) dX8_live_170 rfl ?_
                refine w_iadd dX8_live_174 ?_
                refine v_istore (l' := [.ref l0, .null, .null, .int l3, .int l4, .int l5, .int (l6 + 1), .int l7, .int r1, .int r3, .int r5, .int r11]) dX8_live_175 (Nat.le_of_ble_eq_true rfl) rfl ?_
                refine v_iinc (l' := [.ref l0, .null, .null, .int l3, .int l4, .int l5, .int (l6 + 1), .int (l7 + 1), .int r1, .int r3, .int r5, .int r11]) (v := l7 + 1) dX8_live_177 rfl rfl (Nat.le_of_ble_eq_true rfl) rfl ?_
                refine w_goto (tgt := 44) dX8_live_180 rfl ?_
                exact w_drop (l' := [.ref l0, .null, .null, .int l3, .int l4, .int l5, .int (l6 + 1), .int (l7 + 1), .null, .null, .null, .null]) ⟨Or.inr rfl, Or.inl rfl, Or.inl rfl, Or.inr rfl, Or.inr rfl, Or.inr rfl, Or.inr rfl, Or.inr rfl, Or.inl rfl, Or.inl rfl, Or.inl rfl, Or.inl rfl, trivial⟩ w
          · rw [if_pos c] at w
            refine w_aload_n dX8_live_111 rfl ?_
            obtain ⟨e1, w⟩ := w
            refine w_getp dX8_live_112 lk_RX8_43 e1 rfl ?_
            refine w_iload dX8_live_115 rfl ?_
            obtain ⟨e2, w⟩ := w
            refine w_callV (As := [.int r1]) (st := []) dX8_live_117 mt_X0_takeFrom g_1031 g_984 g_985 rfl e2 rfl rfl (Nat.le_of_ble_eq_true rfl) (Nat.le_refl _) ⟨Nat.le_refl _, Nat.le_refl _⟩ w ?_
            rintro v h8 ⟨r7, rfl, w⟩
            refine w_iconst (v := (-1)) dX8_live_120 rfl ?_
            refine w_ic_eq (tgt := 128) dX8_live_121 rfl (fun c => ?_) (fun c => ?_)
            · rw [if_pos c] at w
              refine w_iconst (v := 0) dX8_live_128 rfl ?_
              refine v_istore (l' := [.ref l0, .null, .null, .int l3, .int l4, .int l5, .int l6, .int l7, .int r1, .int r3, .int r5, .int 0]) dX8_live_129 (Nat.le_of_ble_eq_true rfl) rfl ?_
              refine w_goto (tgt := 162) dX8_live_131 rfl ?_
              refine w_iload dX8_live_162 rfl ?_
              refine w_iload dX8_live_164 rfl ?_
              refine w_if_eq (tgt := 173) dX8_live_166 rfl (fun c => ?_) (fun c => ?_)
              · refine w_iconst (v := 0) dX8_live_173 rfl ?_
                refine w_iadd dX8_live_174 ?_
                refine v_istore (l' := [.ref l0, .null, .null, .int l3, .int l4, .int l5, .int (l6 + 0), .int l7, .int r1, .int r3, .int r5, .int 0]) dX8_live_175 (Nat.le_of_ble_eq_true rfl) rfl ?_
                refine v_iinc (l' := [.ref l0, .null, .null, .int l3, .int l4, .int l5, .int (l6 + 0), .int (l7 + 1), .int r1, .int r3, .int r5, .int 0]) (v := l7 + 1) dX8_live_177 rfl rfl (Nat.le_of_ble_eq_true rfl) rfl ?_
                refine w_goto (tgt := 44) dX8_live_180 rfl ?_
                exact w_drop (l' := [.ref l0, .null, .null, .int l3, .int l4, .int l5, .int (l6 + 0), .int (l7 + 1), .null, .null, .null, .null]) ⟨Or.inr rfl, Or.inl rfl, Or.inl rfl, Or.inr rfl, Or.inr rfl, Or.inr rfl, Or.inr rfl, Or.inr rfl, Or.inl rfl, Or.inl rfl, Or.inl rfl, Or.inl rfl, trivial⟩ w
              · exact absurd c (by decide)
            · rw [if_neg c] at w
              refine w_iconst (v := 1) dX8_live_124 rfl ?_
              refine w_goto (tgt := 129) dX8_live_125 rfl ?_
              refine v_istore (l' := [.ref l0, .null, .null, .int l3, .int l4, .int l5, .int l6, .int l7, .int r1, .int r3, .int r5, .int 1]) dX8_live_129 (Nat.le_of_ble_eq_true rfl) rfl ?_
              refine w_goto (tgt := 162) dX8_live_131 rfl ?_
              refine w_iload dX8_live_162 rfl ?_
              refine w_iload dX8_live_164 rfl ?_
              refine w_if_eq (tgt := 173) dX8_live_166 rfl (fun c => ?_) (fun c => ?_)
              · exact absurd c (by decide)
              · refine w_iconst (v := 1) dX8_live_169 rfl ?_
                refine w_goto (tgt := 174) dX8_live_170 rfl ?_
                refine w_iadd dX8_live_174 ?_
                refine v_istore (l' := [.ref l0, .null, .null, .int l3, .int l4, .int l5, .int (l6 + 1), .int l7, .int r1, .int r3, .int r5, .int 1]) dX8_live_175 (Nat.le_of_ble_eq_true rfl) rfl ?_
                refine v_iinc (l' := [.ref l0, .null, .null, .int l3, .int l4, .int l5, .int (l6 + 1), .int (l7 + 1), .int r1, .int r3, .int r5, .int 1]) (v := l7 + 1) dX8_live_177 rfl rfl (Nat.le_of_ble_eq_true rfl) rfl ?_
                refine w_goto (tgt := 44) dX8_live_180 rfl ?_
                exact w_drop (l' := [.ref l0, .null, .null, .int l3, .int l4, .int l5, .int (l6 + 1), .int (l7 + 1), .null, .null, .null, .null]) ⟨Or.inr rfl, Or.inl rfl, Or.inl rfl, Or.inr rfl, Or.inr rfl, Or.inr rfl, Or.inr rfl, Or.inr rfl, Or.inl rfl, Or.inl rfl, Or.inl rfl, Or.inl rfl, trivial⟩ w
        · rw [if_neg c] at w
          refine w_aload_n dX8_live_89 rfl ?_
          obtain ⟨e1, w⟩ := w
          refine w_getp dX8_live_90 lk_RX8_43 e1 rfl ?_
          refine w_iload dX8_live_93 rfl ?_
          refine w_iload dX8_live_95 rfl ?_
          obtain ⟨e2, w⟩ := w
          refine w_callV (As := [.int r3, .int r1]) (st := []) dX8_live_97 mt_X0_putIn g_1030 g_799 g_800 rfl e2 rfl rfl (Nat.le_of_ble_eq_true rfl) (Nat.le_refl _) ⟨Nat.le_refl _, Nat.le_refl _⟩ w ?_
          rintro v h14 ⟨r13, rfl, w⟩
          refine v_istore (l' := [.ref l0, .null, .null, .int l3, .int l4, .int l5, .int l6, .int l7, .int r1, .int r3, .int r5, .int r13]) dX8_live_100 (Nat.le_of_ble_eq_true rfl) rfl ?_
          refine w_goto (tgt := 162) dX8_live_102 rfl ?_
          refine w_iload dX8_live_162 rfl ?_
          refine w_iload dX8_live_164 rfl ?_
          refine w_if_eq (tgt := 173) dX8_live_166 rfl (fun c => ?_) (fun c => ?_)
          · rw [if_pos c] at w
            refine w_iconst (v := 0) dX8_live_173 rfl ?_
            refine w_iadd dX8_live_174 ?_
            refine v_istore (l' := [.ref l0, .null, .null, .int l3, .int l4, .int l5, .int (l6 + 0), .int l7, .int r1, .int r3, .int r5, .int r13]) dX8_live_175 (Nat.le_of_ble_eq_true rfl) rfl ?_
            refine v_iinc (l' := [.ref l0, .null, .null, .int l3, .int l4, .int l5, .int (l6 + 0), .int (l7 + 1), .int r1, .int r3, .int r5, .int r13]) (v := l7 + 1) dX8_live_177 rfl rfl (Nat.le_of_ble_eq_true rfl) rfl ?_
            refine w_goto (tgt := 44) dX8_live_180 rfl ?_
            exact w_drop (l' := [.ref l0, .null, .null, .int l3, .int l4, .int l5, .int (l6 + 0), .int (l7 + 1), .null, .null, .null, .null]) ⟨Or.inr rfl, Or.inl rfl, Or.inl rfl, Or.inr rfl, Or.inr rfl, Or.inr rfl, Or.inr rfl, Or.inr rfl, Or.inl rfl, Or.inl rfl, Or.inl rfl, Or.inl rfl, trivial⟩ w
          · rw [if_neg c] at w
            refine w_iconst (v := 1) dX8_live_169 rfl ?_
            refine w_goto (tgt := 174) dX8_live_170 rfl ?_
            refine w_iadd dX8_live_174 ?_
            refine v_istore (l' := [.ref l0, .null, .null, .int l3, .int l4, .int l5, .int (l6 + 1), .int l7, .int r1, .int r3, .int r5, .int r13]) dX8_live_175 (Nat.le_of_ble_eq_true rfl) rfl ?_
            refine v_iinc (l' := [.ref l0, .null, .null, .int l3, .int l4, .int l5, .int (l6 + 1), .int (l7 + 1), .int r1, .int r3, .int r5, .int r13]) (v := l7 + 1) dX8_live_177 rfl rfl (Nat.le_of_ble_eq_true rfl) rfl ?_
            refine w_goto (tgt := 44) dX8_live_180 rfl ?_
            exact w_drop (l' := [.ref l0, .null, .null, .int l3, .int l4, .int l5, .int (l6 + 1), .int (l7 + 1), .null, .null, .null, .null]) ⟨Or.inr rfl, Or.inl rfl, Or.inl rfl, Or.inr rfl, Or.inr rfl, Or.inr rfl, Or.inr rfl, Or.inr rfl, Or.inl rfl, Or.inl rfl, Or.inl rfl, Or.inl rfl, trivial⟩ w
set_option maxRecDepth 20000 in
set_option maxHeartbeats 4000000 in
theorem x_X8_drawBelow {G : pm_G} {d : Nat} {post : pm_PT} {h : pm_H} {l0 : Nat} {l1 : Int32} (w :
    (h.1[l0]? = some (0, 8)) ∧
    ∀ h1 : pm_H, h1 = sl h l0 6 ((((gj h l0 6) * (1103515245 : Int64)) + (12345 : Int64)) - (((gj h l0 6) * (1103515245 : Int64)) + (12345 : Int64)) / (2147483648 : Int64) * (2147483648 : Int64)) →
    if l1 ≤ 0 then (
      post (some (.int 0)) h1
    ) else (
      (¬ ((l1 : Int32).toInt64) = 0) ∧
      post (some (.int ((((gj h1 l0 6) / (65536 : Int64)) - ((gj h1 l0 6) / (65536 : Int64)) / ((l1 : Int32).toInt64) * ((l1 : Int32).toInt64) : Int64).toInt32))) h1
    )) :
    Wp G (m_X8_drawBelow, d + 1, 0, 0, post) (0, 0) 0 [.ref l0, .int l1] [] h := by
  refine w_aload_n dX8_drawBelow_0 rfl ?_
  refine w_aload_n dX8_drawBelow_1 rfl ?_
  obtain ⟨e1, w⟩ := w
  refine w_getl dX8_drawBelow_2 lk_RX8_30 e1 rfl ?_
  refine w_ldc2 (v := (1103515245 : Int64)) dX8_drawBelow_5 g_1216 ?_
  refine w_lmul dX8_drawBelow_8 ?_
  refine w_ldc2 (v := (12345 : Int64)) dX8_drawBelow_9 g_1217 ?_
  refine w_ladd dX8_drawBelow_12 ?_
  refine w_ldc2 (v := (2147483648 : Int64)) dX8_drawBelow_13 g_1218 ?_
  refine w_lrem dX8_drawBelow_16 (by decide) ?_
  refine w_putl dX8_drawBelow_17 lk_RX8_30 e1 rfl (Or.inl rfl) ?_
  have w := w _ rfl
  refine w_iload_n dX8_drawBelow_20 rfl ?_
  refine w_if_le (tgt := 39) dX8_drawBelow_21 rfl (fun c => ?_) (fun c => ?_)
  · rw [if_pos c] at w
    refine w_iconst (v := 0) dX8_drawBelow_39 rfl ?_
    exact w_ireturn dX8_drawBelow_40 rfl rfl ⟨Nat.le_refl _, Nat.le_refl _⟩ w
  · rw [if_neg c] at w
    refine w_aload_n dX8_drawBelow_24 rfl ?_
    refine w_getl dX8_drawBelow_25 lk_RX8_30 e1 rfl ?_
    refine w_ldc2 (v := (65536 : Int64)) dX8_drawBelow_28 g_1219 ?_
    refine w_ldiv dX8_drawBelow_31 (by decide) ?_
    refine w_iload_n dX8_drawBelow_32 rfl ?_
    refine w_i2l dX8_drawBelow_33 ?_
    obtain ⟨e2, w⟩ := w
    refine w_lrem dX8_drawBelow_34 e2 ?_
    refine w_l2i dX8_drawBelow_35 ?_
    refine w_goto (tgt := 40) dX8_drawBelow_36 rfl ?_
    exact w_ireturn dX8_drawBelow_40 rfl rfl ⟨Nat.le_refl _, Nat.le_refl _⟩ w
set_option maxRecDepth 20000 in
set_option maxHeartbeats 4000000 in
theorem x_X11_feed {G : pm_G} {d : Nat} {post : pm_PT} {h : pm_H} {l0 : Nat} {l1 : Int64} {l3 : Int64} {l5 : Int64} (w :
    (h.1[l0]? = some (0, 10)) ∧
    (h.1[gp h l0 0]? = some (0, 7)) ∧
    cv G d m_X7_addBytes [.ref (gp h l0 0), .long l1] h fun h2 =>
    (h2.1[l0]? = some (0, 10)) ∧
    (h2.1[gp h2 l0 0]? = some (0, 7)) ∧
    cv G d m_X7_addBytes [.ref (gp h2 l0 0), .long l3] h2 fun h4 =>
    (h4.1[l0]? = some (0, 10)) ∧
    (h4.1[gp h4 l0 0]? = some (0, 7)) ∧
    cv G d m_X7_addBytes [.ref (gp h4 l0 0), .long l5] h4 fun h6 =>
    (h6.1[l0]? = some (0, 10)) ∧
    (h6.1[gp h6 l0 0]? = some (0, 7)) ∧
    post (some (.int (gi h6 (gp h6 l0 0) 1))) h6) :
    Wp G (m_X11_feed, d + 1, 0, 0, post) (0, 0) 0 [.ref l0, .long l1, .null, .long l3, .null, .long l5, .null] [] h := by
  refine w_aload_n dX11_feed_0 rfl ?_
  obtain ⟨e1, w⟩ := w
  refine w_getp dX11_feed_1 lk_RX11_10 e1 rfl ?_
  refine w_lload_n dX11_feed_4 rfl ?_
  obtain ⟨e2, w⟩ := w
  refine w_callV (As := [.long l1]) (st := []) dX11_feed_5 mt_X7_addBytes g_552 g_553 g_554 rfl e2 rfl rfl (Nat.le_of_ble_eq_true rfl) (Nat.le_refl _) ⟨Nat.le_refl _, Nat.le_refl _⟩ w ?_
  rintro v h2 ⟨rfl, w⟩
  refine w_aload_n dX11_feed_8 rfl ?_
  obtain ⟨e1, w⟩ := w
  refine w_getp dX11_feed_9 lk_RX11_10 e1 rfl ?_
  refine w_lload_n dX11_feed_12 rfl ?_
  obtain ⟨e2, w⟩ := w
  refine w_callV (As := [.long l3]) (st := []) dX11_feed_13 mt_X7_addBytes g_552 g_553 g_554 rfl e2 rfl rfl (Nat.le_of_ble_eq_true rfl) (Nat.le_refl _) ⟨Nat.le_refl _, Nat.le_refl _⟩ w ?_
  rintro v h4 ⟨rfl, w⟩
  refine w_aload_n dX11_feed_16 rfl ?_
  obtain ⟨e1, w⟩ := w
  refine w_getp dX11_feed_17 lk_RX11_10 e1 rfl ?_
  refine w_lload dX11_feed_20 rfl ?_
  obtain ⟨e2, w⟩ := w
  refine w_callV (As := [.long l5]) (st := []) dX11_feed_22 mt_X7_addBytes g_552 g_553 g_554 rfl e2 rfl rfl (Nat.le_of_ble_eq_true rfl) (Nat.le_refl _) ⟨Nat.le_refl _, Nat.le_refl _⟩ w ?_
  rintro v h6 ⟨rfl, w⟩
  refine w_aload_n dX11_feed_25 rfl ?_
  obtain ⟨e1, w⟩ := w
  refine w_getp dX11_feed_26 lk_RX11_10 e1 rfl ?_
  obtain ⟨e2, w⟩ := w
  refine w_geti dX11_feed_29 lk_RX11_100 e2 rfl ?_
  exact w_ireturn dX11_feed_32 rfl rfl ⟨Nat.le_refl _, Nat.le_refl _⟩ w
set_option maxRecDepth 20000 in
set_option maxHeartbeats 4000000 in
theorem x_X11_queue {G : pm_G} {d : Nat} {post : pm_PT} {h : pm_H} {l0 : Nat} (w :
    (h.1[l0]? = some (0, 10)) ∧
    (h.1[gp h l0 5]? = some (0, 5)) ∧
    ci G d m_X5_readQueue [.ref (gp h l0 5), .ref (gp h l0 2)] h fun r1 h2 =>
    (h2.1[l0]? = some (0, 10)) ∧
    (h2.1[gp h2 l0 0]? = some (0, 7)) ∧
    ∀ h3 : pm_H, h3 = si h2 (gp h2 l0 0) 1 0 →
    if r1 = 0 then (
      (h2.1[gp h3 l0 1]? = some (0, 4)) ∧
      cv G d m_X4_copyFrom [.ref (gp h3 l0 1), .ref (gp h3 l0 2)] h3 fun h5 =>
      (h5.1[l0]? = some (0, 10)) ∧
      (h5.1[gp h5 l0 6]? = some (0, 0)) ∧
      cv G d m_X0_tell [.ref (gp h5 l0 6)] h5 fun h7 =>
      (h7.1[l0]? = some (0, 10)) ∧
      (h7.1[gp h7 l0 3]? = some (0, 9)) ∧
      ∀ h8 : pm_H, h8 = si h7 (gp h7 l0 3) 3 0 →
      ∀ h9 : pm_H, h9 = si h8 l0 9 0 →
      ∀ h10 : pm_H, h10 = si h9 l0 13 0 →
      ∀ h11 : pm_H, h11 = si h10 l0 10 0 →
      (h7.1[gp h11 l0 16]? = some (0, 6)) ∧
      cv G d m_X6_fill [.ref (gp h11 l0 16), .int (-1)] h11 fun h13 =>
      post (some (.int r1)) h13
    ) else (
      post (some (.int r1)) h3
    )) :
    Wp G (m_X11_queue, d + 1, 0, 0, post) (0, 0) 0 [.ref l0, .null] [] h := by
  refine w_aload_n dX11_queue_0 rfl ?_
  obtain ⟨e1, w⟩ := w
  refine w_getp dX11_queue_1 lk_RX11_41 e1 rfl ?_
  refine w_aload_n dX11_queue_4 rfl ?_
  refine w_getp dX11_queue_5 lk_RX11_23 e1 rfl ?_
  obtain ⟨e2, w⟩ := w
  refine w_callV (As := [.ref (gp h l0 2)]) (st := []) dX11_queue_8 mt_X5_readQueue g_561 g_562 g_563 rfl e2 rfl rfl (Nat.le_of_ble_eq_true rfl) (Nat.le_refl _) ⟨Nat.le_refl _, Nat.le_refl _⟩ w ?_
  rintro v h2 ⟨r1, rfl, w⟩
  refine v_istore_n (l' := [.ref l0, .int r1]) dX11_queue_11 (Nat.le_of_ble_eq_true rfl) rfl ?_
  refine w_aload_n dX11_queue_12 rfl ?_
  obtain ⟨e1, w⟩ := w
  refine w_getp dX11_queue_13 lk_RX11_10 e1 rfl ?_
  refine w_iconst (v := 0) dX11_queue_16 rfl ?_
  obtain ⟨e2, w⟩ := w
  refine w_puti dX11_queue_17 lk_RX11_100 e2 rfl (Or.inl rfl) ?_
  have w := w _ rfl
  refine w_iload_n dX11_queue_20 rfl ?_
  refine w_if_ne (tgt := 73) dX11_queue_21 rfl (fun c => ?_) (fun c => ?_)
  · rw [if_neg c] at w
    refine w_iload_n dX11_queue_73 rfl ?_
    exact w_ireturn dX11_queue_74 rfl rfl ⟨Nat.le_refl _, Nat.le_refl _⟩ w
  · rw [if_pos c] at w
    refine w_aload_n dX11_queue_24 rfl ?_
    refine w_getp dX11_queue_25 lk_RX11_19 e1 rfl ?_
    refine w_aload_n dX11_queue_28 rfl ?_
    refine w_getp dX11_queue_29 lk_RX11_23 e1 rfl ?_
    obtain ⟨e3, w⟩ := w
    refine w_callV (As := [.ref (gp (si h2 (gp h2 l0 0) 1 0) l0 2)]) (st := []) dX11_queue_32 mt_X4_copyFrom g_766 g_767 g_768 rfl e3 rfl rfl (Nat.le_of_ble_eq_true rfl) (Nat.le_refl _) ⟨Nat.le_refl _, Nat.le_refl _⟩ w ?_
    rintro v h5 ⟨rfl, w⟩
    refine w_aload_n dX11_queue_35 rfl ?_
    obtain ⟨e1, w⟩ := w
    refine w_getp dX11_queue_36 lk_RX11_50 e1 rfl ?_
    obtain ⟨e2, w⟩ := w
    refine w_callV (As := []) (st := []) dX11_queue_39 mt_X0_tell g_788 g_789 g_790 rfl e2 rfl rfl (Nat.le_of_ble_eq_true rfl) (Nat.le_refl _) ⟨Nat.le_refl _, Nat.le_refl _⟩ w ?_
    rintro v h7 ⟨rfl, w⟩
    refine w_aload_n dX11_queue_42 rfl ?_
    obtain ⟨e1, w⟩ := w
    refine w_getp dX11_queue_43 lk_RX11_29 e1 rfl ?_
    refine w_iconst (v := 0) dX11_queue_46 rfl ?_
    obtain ⟨e2, w⟩ := w
    refine w_puti dX11_queue_47 lk_RX11_113 e2 rfl (Or.inl rfl) ?_
    have w := w _ rfl
    refine w_aload_n dX11_queue_50 rfl ?_
    refine w_iconst (v := 0) dX11_queue_51 rfl ?_
    refine w_puti dX11_queue_52 lk_RX11_70 e1 rfl (Or.inl rfl) ?_
    have w := w _ rfl
    refine w_aload_n dX11_queue_55 rfl ?_
    refine w_iconst (v := 0) dX11_queue_56 rfl ?_
    refine w_puti dX11_queue_57 lk_RX11_84 e1 rfl (Or.inl rfl) ?_
    have w := w _ rfl
    refine w_aload_n dX11_queue_60 rfl ?_
    refine w_iconst (v := 0) dX11_queue_61 rfl ?_
    refine w_puti dX11_queue_62 lk_RX11_74 e1 rfl (Or.inl rfl) ?_
    have w := w _ rfl
    refine w_aload_n dX11_queue_65 rfl ?_
    refine w_getp dX11_queue_66 lk_RX11_93 e1 rfl ?_
    refine w_iconst (v := (-1)) dX11_queue_69 rfl ?_
    obtain ⟨e3, w⟩ := w
    refine w_callV (As := [.int (-1)]) (st := []) dX11_queue_70 mt_X6_fill g_852 g_241 g_242 rfl e3 rfl rfl (Nat.le_of_ble_eq_true rfl) (Nat.le_refl _) ⟨Nat.le_refl _, Nat.le_refl _⟩ w ?_
    rintro v h13 ⟨rfl, w⟩
    refine w_iload_n dX11_queue_73 rfl ?_
    exact w_ireturn dX11_queue_74 rfl rfl ⟨Nat.le_refl _, Nat.le_refl _⟩ w
set_option maxRecDepth 20000 in
set_option maxHeartbeats 4000000 in
theorem x_X11_work {G : pm_G} {d : Nat} {post : pm_PT} {h : pm_H} {l0 : Nat} (w :
    (h.1[l0]? = some (0, 10)) ∧
    (h.1[gp h l0 5]? = some (0, 5)) ∧
    ci G d m_X5_readWork [.ref (gp h l0 5), .ref (gp h l0 1), .ref (gp h l0 4)] h fun r1 h2 =>
    (h2.1[l0]? = some (0, 10)) ∧
    (h2.1[gp h2 l0 0]? = some (0, 7)) ∧
    ∀ h3 : pm_H, h3 = si h2 (gp h2 l0 0) 1 0 →
    if r1 = 0 then (
      (h2.1[gp h3 l0 3]? = some (0, 9)) ∧
      cv G d m_X10_copyFrom [.ref (gp h3 l0 3), .ref (gp h3 l0 4)] h3 fun h5 =>
      post (some (.int r1)) h5
    ) else (
      post (some (.int r1)) h3
    )) :
    Wp G (m_X11_work, d + 1, 0, 0, post) (0, 0) 0 [.ref l0, .null] [] h := by
  refine w_aload_n dX11_work_0 rfl ?_
  obtain ⟨e1, w⟩ := w
  refine w_getp dX11_work_1 lk_RX11_41 e1 rfl ?_
  refine w_aload_n dX11_work_4 rfl ?_
  refine w_getp dX11_work_5 lk_RX11_19 e1 rfl ?_
  refine w_aload_n dX11_work_8 rfl ?_
  refine w_getp dX11_work_9 lk_RX11_33 e1 rfl ?_
  obtain ⟨e2, w⟩ := w
  refine w_callV (As := [.ref (gp h l0 1), .ref (gp h l0 4)]) (st := []) dX11_work_12 mt_X5_readWork g_857 g_858 g_859 rfl e2 rfl rfl (Nat.le_of_ble_eq_true rfl) (Nat.le_refl _) ⟨Nat.le_refl _, Nat.le_refl _⟩ w ?_
  rintro v h2 ⟨r1, rfl, w⟩
  refine v_istore_n (l' := [.ref l0, .int r1]) dX11_work_15 (Nat.le_of_ble_eq_true rfl) rfl ?_
  refine w_aload_n dX11_work_16 rfl ?_
  obtain ⟨e1, w⟩ := w
  refine w_getp dX11_work_17 lk_RX11_10 e1 rfl ?_
  refine w_iconst (v := 0) dX11_work_20 rfl ?_
  obtain ⟨e2, w⟩ := w
  refine w_puti dX11_work_21 lk_RX11_100 e2 rfl (Or.inl rfl) ?_
  have w := w _ rfl
  refine w_iload_n dX11_work_24 rfl ?_
  refine w_if_ne (tgt := 39) dX11_work_25 rfl (fun c => ?_) (fun c => ?_)
  · rw [if_neg c] at w
    refine w_iload_n dX11_work_39 rfl ?_
    exact w_ireturn dX11_work_40 rfl rfl ⟨Nat.le_refl _, Nat.le_refl _⟩ w
  · rw [if_pos c] at w
    refine w_aload_n dX11_work_28 rfl ?_
    refine w_getp dX11_work_29 lk_RX11_29 e1 rfl ?_
    refine w_aload_n dX11_work_32 rfl ?_
    refine w_getp dX11_work_33 lk_RX11_33 e1 rfl ?_
    obtain ⟨e3, w⟩ := w
    refine w_callV (As := [.ref (gp (si h2 (gp h2 l0 0) 1 0) l0 4)]) (st := []) dX11_work_36 mt_X10_copyFrom g_879 g_880 g_881 rfl e3 rfl rfl (Nat.le_of_ble_eq_true rfl) (Nat.le_refl _) ⟨Nat.le_refl _, Nat.le_refl _⟩ w ?_
    rintro v h5 ⟨rfl, w⟩
    refine w_iload_n dX11_work_39 rfl ?_
    exact w_ireturn dX11_work_40 rfl rfl ⟨Nat.le_refl _, Nat.le_refl _⟩ w
set_option maxRecDepth 20000 in
set_option maxHeartbeats 4000000 in
theorem x_X11_item {G : pm_G} {d : Nat} {post : pm_PT} {h : pm_H} {l0 : Nat} {l1 : Int32} {l2 : Int32} (w :
    (h.1[l0]? = some (0, 10)) ∧
    ci G d m_X11_isItem [.ref l0, .int l1] h fun r1 h2 =>
    if r1 = 0 then (
      post (some (.int (-2))) h2
    ) else (
      if l2 = 0 then (
        (h2.1[l0]? = some (0, 10)) ∧
        (h2.1[gp h2 l0 1]? = some (0, 4)) ∧
        (h2.1[gp h2 (gp h2 l0 1) 4]? = some (0, 6)) ∧
        ci G d m_X6_at [.ref (gp h2 (gp h2 l0 1) 4), .int l1] h2 fun r3 h4 =>
        post (some (.int r3)) h4
      ) else (
      if l2 = 1 then (
        (h2.1[l0]? = some (0, 10)) ∧
        (h2.1[gp h2 l0 6]? = some (0, 0)) ∧
        (h2.1[gp h2 (gp h2 l0 6) 13]? = some (0, 6)) ∧
        ci G d m_X6_at [.ref (gp h2 (gp h2 l0 6) 13), .int l1] h2 fun r5 h6 =>
        post (some (.int r5)) h6
      ) else (
      if l2 = 2 then (
        (h2.1[l0]? = some (0, 10)) ∧
        (h2.1[gp h2 l0 6]? = some (0, 0)) ∧
        (h2.1[gp h2 (gp h2 l0 6) 14]? = some (0, 6)) ∧
        ci G d m_X6_at [.ref (gp h2 (gp h2 l0 6) 14), .int l1] h2 fun r7 h8 =>
        post (some (.int r7)) h8
      ) else (
      if l2 = 3 then (
        (h2.1[l0]? = some (0, 10)) ∧
        (h2.1[gp h2 l0 6]? = some (0, 0)) ∧
        (h2.1[gp h2 (gp h2 l0 6) 15]? = some (0, 6)) ∧
        ci G d m_X6_at [.ref (gp h2 (gp h2 l0 6) 15), .int l1] h2 fun r9 h10 =>
        post (some (.int r9)) h10
      ) else (
      if l2 = 4 then (
        (h2.1[l0]? = some (0, 10)) ∧
        (h2.1[gp h2 l0 6]? = some (0, 0)) ∧
        ci G d m_X0_isRaised [.ref (gp h2 l0 6), .int l1] h2 fun r11 h12 =>
        if r11 = 0 then (
          post (some (.int 0)) h12
        ) else (
          post (some (.int 1)) h12
        )
      ) else (
      post (some (.int (-2))) h2
      )))))
    )) :
    Wp G (m_X11_item, d + 1, 0, 0, post) (0, 0) 0 [.ref l0, .int l1, .int l2] [] h := by
  refine w_aload_n dX11_item_0 rfl ?_
  refine w_iload_n dX11_item_1 rfl ?_
  obtain ⟨e1, w⟩ := w
  refine w_callV (As := [.int l1]) (st := []) dX11_item_2 mt_X11_isItem g_888 g_890 g_33 rfl e1 rfl rfl (Nat.le_of_ble_eq_true rfl) (Nat.le_refl _) ⟨Nat.le_refl _, Nat.le_refl _⟩ w ?_
  rintro v h2 ⟨r1, rfl, w⟩
  refine w_if_ne (tgt := 11) dX11_item_5 rfl (fun c => ?_) (fun c => ?_)
  · rw [if_neg c] at w
    refine w_iload_n dX11_item_11 rfl ?_
    have sw : (l2 : Int32).toInt < 0 ∨ 4 < (l2 : Int32).toInt ∨ (l2 : Int32).toInt = 0 ∨ (l2 : Int32).toInt = 1 ∨ (l2 : Int32).toInt = 2 ∨ (l2 : Int32).toInt = 3 ∨ (l2 : Int32).toInt = 4 := by omega
    rcases sw with sw | sw | sw | sw | sw | sw | sw
    · refine w_tsw (tgt := 113) dX11_item_12 (by rw [if_pos (by first | exact Or.inl sw | exact Or.inr sw)]; rfl) (by first | exact Or.inl sw | exact Or.inr (Or.inl sw)) ?_
      rw [if_neg (fun q => by rw [q] at sw; revert sw; decide)] at w
      rw [if_neg (fun q => by rw [q] at sw; revert sw; decide)] at w
      rw [if_neg (fun q => by rw [q] at sw; revert sw; decide)] at w
      rw [if_neg (fun q => by rw [q] at sw; revert sw; decide)] at w
      rw [if_neg (fun q => by rw [q] at sw; revert sw; decide)] at w
      refine w_bipush (v := (-2)) dX11_item_113 rfl ?_
      exact w_ireturn dX11_item_115 rfl rfl ⟨Nat.le_refl _, Nat.le_refl _⟩ w
    · refine w_tsw (tgt := 113) dX11_item_12 (by rw [if_pos (by first | exact Or.inl sw | exact Or.inr sw)]; rfl) (by first | exact Or.inl sw | exact Or.inr (Or.inl sw)) ?_
      rw [if_neg (fun q => by rw [q] at sw; revert sw; decide)] at w
      rw [if_neg (fun q => by rw [q] at sw; revert sw; decide)] at w
      rw [if_neg (fun q => by rw [q] at sw; revert sw; decide)] at w
      rw [if_neg (fun q => by rw [q] at sw; revert sw; decide)] at w
      rw [if_neg (fun q => by rw [q] at sw; revert sw; decide)] at w
      refine w_bipush (v := (-2)) dX11_item_113 rfl ?_
      exact w_ireturn dX11_item_115 rfl rfl ⟨Nat.le_refl _, Nat.le_refl _⟩ w
    · have sv : (l2 : Int32) = 0 := Int32.toInt_inj.mp (sw.trans (by decide))
      refine w_tsw (tgt := 48) dX11_item_12 (by rw [sw]; rfl) (by rw [sw]; decide) ?_
      rw [if_pos sv] at w
      refine w_aload_n dX11_item_48 rfl ?_
      obtain ⟨e1, w⟩ := w
      refine w_getp dX11_item_49 lk_RX11_19 e1 rfl ?_
      obtain ⟨e2, w⟩ := w
      refine w_getp dX11_item_52 lk_RX11_128 e2 rfl ?_
      refine w_iload_n dX11_item_55 rfl ?_
      obtain ⟨e3, w⟩ := w
      refine w_callV (As := [.int l1]) (st := []) dX11_item_56 mt_X6_at g_892 g_724 g_725 rfl e3 rfl rfl (Nat.le_of_ble_eq_true rfl) (Nat.le_refl _) ⟨Nat.le_refl _, Nat.le_refl _⟩ w ?_
      rintro v h4 ⟨r3, rfl, w⟩
      exact w_ireturn dX11_item_59 rfl rfl ⟨Nat.le_refl _, Nat.le_refl _⟩ w
    · have sv : (l2 : Int32) = 1 := Int32.toInt_inj.mp (sw.trans (by decide))
      refine w_tsw (tgt := 60) dX11_item_12 (by rw [sw]; rfl) (by rw [sw]; decide) ?_
      rw [if_neg (fun q => by rw [q] at sw; revert sw; decide)] at w
      rw [if_pos sv] at w
      refine w_aload_n dX11_item_60 rfl ?_
      obtain ⟨e1, w⟩ := w
      refine w_getp dX11_item_61 lk_RX11_50 e1 rfl ?_
      obtain ⟨e2, w⟩ := w
      refine w_getp dX11_item_64 lk_RX11_135 e2 rfl ?_
      refine w_iload_n dX11_item_67 rfl ?_
      obtain ⟨e3, w⟩ := w
      refine w_callV (As := [.int l1]) (st := []) dX11_item_68 mt_X6_at g_892 g_724 g_725 rfl e3 rfl rfl (Nat.le_of_ble_eq_true rfl) (Nat.le_refl _) ⟨Nat.le_refl _, Nat.le_refl _⟩ w ?_
      rintro v h6 ⟨r5, rfl, w⟩
      exact w_ireturn dX11_item_71 rfl rfl ⟨Nat.le_refl _, Nat.le_refl _⟩ w
    · have sv : (l2 : Int32) = 2 := Int32.toInt_inj.mp (sw.trans (by decide))
      refine w_tsw (tgt := 72) dX11_item_12 (by rw [sw]; rfl) (by rw [sw]; decide) ?_
      rw [if_neg (fun q => by rw [q] at sw; revert sw; decide)] at w
      rw [if_neg (fun q => by rw [q] at sw; revert sw; decide)] at w
      rw [if_pos sv] at w
      refine w_aload_n dX11_item_72 rfl ?_
      obtain ⟨e1, w⟩ := w
      refine w_getp dX11_item_73 lk_RX11_50 e1 rfl ?_
      obtain ⟨e2, w⟩ := w
      refine w_getp dX11_item_76 lk_RX11_138 e2 rfl ?_
      refine w_iload_n dX11_item_79 rfl ?_
      obtain ⟨e3, w⟩ := w
      refine w_callV (As := [.int l1]) (st := []) dX11_item_80 mt_X6_at g_892 g_724 g_725 rfl e3 rfl rfl (Nat.le_of_ble_eq_true rfl) (Nat.le_refl _) ⟨Nat.le_refl _, Nat.le_refl _⟩ w ?_
      rintro v h8 ⟨r7, rfl, w⟩
      exact w_ireturn dX11_item_83 rfl rfl ⟨Nat.le_refl _, Nat.le_refl _⟩ w
    · have sv : (l2 : Int32) = 3 := Int32.toInt_inj.mp (sw.trans (by decide))
      refine w_tsw (tgt := 84) dX11_item_12 (by rw [sw]; rfl) (by rw [sw]; decide) ?_
      rw [if_neg (fun q => by rw [q] at sw; revert sw; decide)] at w
      rw [if_neg (fun q => by rw [q] at sw; revert sw; decide)] at w
      rw [if_neg (fun q => by rw [q] at sw; revert sw; decide)] at w
      rw [if_pos sv] at w
      refine w_aload_n dX11_item_84 rfl ?_
      obtain ⟨e1, w⟩ := w
      refine w_getp dX11_item_85 lk_RX11_50 e1 rfl ?_
      obtain ⟨e2, w⟩ := w
      refine w_getp dX11_item_88 lk_RX11_141 e2 rfl ?_
      refine w_iload_n dX11_item_91 rfl ?_
      obtain ⟨e3, w⟩ := w
      refine w_callV (As := [.int l1]) (st := []) dX11_item_92 mt_X6_at g_892 g_724 g_725 rfl e3 rfl rfl (Nat.le_of_ble_eq_true rfl) (Nat.le_refl _) ⟨Nat.le_refl _, Nat.le_refl _⟩ w ?_
      rintro v h10 ⟨r9, rfl, w⟩
      exact w_ireturn dX11_item_95 rfl rfl ⟨Nat.le_refl _, Nat.le_refl _⟩ w
    · have sv : (l2 : Int32) = 4 := Int32.toInt_inj.mp (sw.trans (by decide))
      refine w_tsw (tgt := 96) dX11_item_12 (by rw [sw]; rfl) (by rw [sw]; decide) ?_
      rw [if_neg (fun q => by rw [q] at sw; revert sw; decide)] at w
      rw [if_neg (fun q => by rw [q] at sw; revert sw; decide)] at w
      rw [if_neg (fun q => by rw [q] at sw; revert sw; decide)] at w
      rw [if_neg (fun q => by rw [q] at sw; revert sw; decide)] at w
      rw [if_pos sv] at w
      refine w_aload_n dX11_item_96 rfl ?_
      obtain ⟨e1, w⟩ := w
      refine w_getp dX11_item_97 lk_RX11_50 e1 rfl ?_
      refine w_iload_n dX11_item_100 rfl ?_
      obtain ⟨e2, w⟩ := w
      refine w_callV (As := [.int l1]) (st := []) dX11_item_101 mt_X0_isRaised g_893 g_894 g_895 rfl e2 rfl rfl (Nat.le_of_ble_eq_true rfl) (Nat.le_refl _) ⟨Nat.le_refl _, Nat.le_refl _⟩ w ?_
      rintro v h12 ⟨r11, rfl, w⟩
      refine w_if_eq (tgt := 111) dX11_item_104 rfl (fun c => ?_) (fun c => ?_)
      · rw [if_pos c] at w
        refine w_iconst (v := 0) dX11_item_111 rfl ?_
        exact w_ireturn dX11_item_112 rfl rfl ⟨Nat.le_refl _, Nat.le_refl _⟩ w
      · rw [if_neg c] at w
        refine w_iconst (v := 1) dX11_item_107 rfl ?_
        refine w_goto (tgt := 112) dX11_item_108 rfl ?_
        exact w_ireturn dX11_item_112 rfl rfl ⟨Nat.le_refl _, Nat.le_refl _⟩ w
  · rw [if_pos c] at w
    refine w_bipush (v := (-2)) dX11_item_8 rfl ?_
    exact w_ireturn dX11_item_10 rfl rfl ⟨Nat.le_refl _, Nat.le_refl _⟩ w
set_option maxRecDepth 20000 in
set_option maxHeartbeats 4000000 in
theorem x_X11_heap {G : pm_G} {d : Nat} {post : pm_PT} {h : pm_H} {l0 : Nat} {l1 : Int32} {l2 : Int32} (w :
    (h.1[l0]? = some (0, 10)) ∧
    ci G d m_X11_isHeap [.ref l0, .int l1] h fun r1 h2 =>
    if r1 = 0 then (
      post (some (.int (-2))) h2
    ) else (
      if l2 = 0 then (
        (h2.1[l0]? = some (0, 10)) ∧
        (h2.1[gp h2 l0 6]? = some (0, 0)) ∧
        ci G d m_X0_itemsIn [.ref (gp h2 l0 6), .int l1] h2 fun r3 h4 =>
        post (some (.int r3)) h4
      ) else (
      if l2 = 1 then (
        (h2.1[l0]? = some (0, 10)) ∧
        (h2.1[gp h2 l0 6]? = some (0, 0)) ∧
        ci G d m_X0_treesIn [.ref (gp h2 l0 6), .int l1] h2 fun r5 h6 =>
        post (some (.int r5)) h6
      ) else (
      if l2 = 2 then (
        (h2.1[l0]? = some (0, 10)) ∧
        (h2.1[gp h2 l0 6]? = some (0, 0)) ∧
        ci G d m_X0_raisedIn [.ref (gp h2 l0 6), .int l1] h2 fun r7 h8 =>
        post (some (.int r7)) h8
      ) else (
      if l2 = 3 then (
        (h2.1[l0]? = some (0, 10)) ∧
        (h2.1[gp h2 l0 6]? = some (0, 0)) ∧
        ci G d m_X0_greatestRank [.ref (gp h2 l0 6), .int l1] h2 fun r9 h10 =>
        post (some (.int r9)) h10
      ) else (
      post (some (.int (-2))) h2
      ))))
    )) :
    Wp G (m_X11_heap, d + 1, 0, 0, post) (0, 0) 0 [.ref l0, .int l1, .int l2] [] h := by
  refine w_aload_n dX11_heap_0 rfl ?_
  refine w_iload_n dX11_heap_1 rfl ?_
  obtain ⟨e1, w⟩ := w
  refine w_callV (As := [.int l1]) (st := []) dX11_heap_2 mt_X11_isHeap g_901 g_903 g_34 rfl e1 rfl rfl (Nat.le_of_ble_eq_true rfl) (Nat.le_refl _) ⟨Nat.le_refl _, Nat.le_refl _⟩ w ?_
  rintro v h2 ⟨r1, rfl, w⟩
  refine w_if_ne (tgt := 11) dX11_heap_5 rfl (fun c => ?_) (fun c => ?_)
  · rw [if_neg c] at w
    refine w_iload_n dX11_heap_11 rfl ?_
    have sw : (l2 : Int32).toInt < 0 ∨ 3 < (l2 : Int32).toInt ∨ (l2 : Int32).toInt = 0 ∨ (l2 : Int32).toInt = 1 ∨ (l2 : Int32).toInt = 2 ∨ (l2 : Int32).toInt = 3 := by omega
    rcases sw with sw | sw | sw | sw | sw | sw
    · refine w_tsw (tgt := 80) dX11_heap_12 (by rw [if_pos (by first | exact Or.inl sw | exact Or.inr sw)]; rfl) (by first | exact Or.inl sw | exact Or.inr (Or.inl sw)) ?_
      rw [if_neg (fun q => by rw [q] at sw; revert sw; decide)] at w
      rw [if_neg (fun q => by rw [q] at sw; revert sw; decide)] at w
      rw [if_neg (fun q => by rw [q] at sw; revert sw; decide)] at w
      rw [if_neg (fun q => by rw [q] at sw; revert sw; decide)] at w
      refine w_bipush (v := (-2)) dX11_heap_80 rfl ?_
      exact w_ireturn dX11_heap_82 rfl rfl ⟨Nat.le_refl _, Nat.le_refl _⟩ w
    · refine w_tsw (tgt := 80) dX11_heap_12 (by rw [if_pos (by first | exact Or.inl sw | exact Or.inr sw)]; rfl) (by first | exact Or.inl sw | exact Or.inr (Or.inl sw)) ?_
      rw [if_neg (fun q => by rw [q] at sw; revert sw; decide)] at w
      rw [if_neg (fun q => by rw [q] at sw; revert sw; decide)] at w
      rw [if_neg (fun q => by rw [q] at sw; revert sw; decide)] at w
      rw [if_neg (fun q => by rw [q] at sw; revert sw; decide)] at w
      refine w_bipush (v := (-2)) dX11_heap_80 rfl ?_
      exact w_ireturn dX11_heap_82 rfl rfl ⟨Nat.le_refl _, Nat.le_refl _⟩ w
    · have sv : (l2 : Int32) = 0 := Int32.toInt_inj.mp (sw.trans (by decide))
      refine w_tsw (tgt := 44) dX11_heap_12 (by rw [sw]; rfl) (by rw [sw]; decide) ?_
      rw [if_pos sv] at w
      refine w_aload_n dX11_heap_44 rfl ?_
      obtain ⟨e1, w⟩ := w
      refine w_getp dX11_heap_45 lk_RX11_50 e1 rfl ?_
      refine w_iload_n dX11_heap_48 rfl ?_
      obtain ⟨e2, w⟩ := w
      refine w_callV (As := [.int l1]) (st := []) dX11_heap_49 mt_X0_itemsIn g_905 g_812 g_813 rfl e2 rfl rfl (Nat.le_of_ble_eq_true rfl) (Nat.le_refl _) ⟨Nat.le_refl _, Nat.le_refl _⟩ w ?_
      rintro v h4 ⟨r3, rfl, w⟩
      exact w_ireturn dX11_heap_52 rfl rfl ⟨Nat.le_refl _, Nat.le_refl _⟩ w
    · have sv : (l2 : Int32) = 1 := Int32.toInt_inj.mp (sw.trans (by decide))
      refine w_tsw (tgt := 53) dX11_heap_12 (by rw [sw]; rfl) (by rw [sw]; decide) ?_
      rw [if_neg (fun q => by rw [q] at sw; revert sw; decide)] at w
      rw [if_pos sv] at w
      refine w_aload_n dX11_heap_53 rfl ?_
      obtain ⟨e1, w⟩ := w
      refine w_getp dX11_heap_54 lk_RX11_50 e1 rfl ?_
      refine w_iload_n dX11_heap_57 rfl ?_
      obtain ⟨e2, w⟩ := w
      refine w_callV (As := [.int l1]) (st := []) dX11_heap_58 mt_X0_treesIn g_906 g_907 g_908 rfl e2 rfl rfl (Nat.le_of_ble_eq_true rfl) (Nat.le_refl _) ⟨Nat.le_refl _, Nat.le_refl _⟩ w ?_
      rintro v h6 ⟨r5, rfl, w⟩
      exact w_ireturn dX11_heap_61 rfl rfl ⟨Nat.le_refl _, Nat.le_refl _⟩ w
    · have sv : (l2 : Int32) = 2 := Int32.toInt_inj.mp (sw.trans (by decide))
      refine w_tsw (tgt := 62) dX11_heap_12 (by rw [sw]; rfl) (by rw [sw]; decide) ?_
      rw [if_neg (fun q => by rw [q] at sw; revert sw; decide)] at w
      rw [if_neg (fun q => by rw [q] at sw; revert sw; decide)] at w
      rw [if_pos sv] at w
      refine w_aload_n dX11_heap_62 rfl ?_
      obtain ⟨e1, w⟩ := w
      refine w_getp dX11_heap_63 lk_RX11_50 e1 rfl ?_
      refine w_iload_n dX11_heap_66 rfl ?_
      obtain ⟨e2, w⟩ := w
      refine w_callV (As := [.int l1]) (st := []) dX11_heap_67 mt_X0_raisedIn g_910 g_911 g_912 rfl e2 rfl rfl (Nat.le_of_ble_eq_true rfl) (Nat.le_refl _) ⟨Nat.le_refl _, Nat.le_refl _⟩ w ?_
      rintro v h8 ⟨r7, rfl, w⟩
      exact w_ireturn dX11_heap_70 rfl rfl ⟨Nat.le_refl _, Nat.le_refl _⟩ w
    · have sv : (l2 : Int32) = 3 := Int32.toInt_inj.mp (sw.trans (by decide))
      refine w_tsw (tgt := 71) dX11_heap_12 (by rw [sw]; rfl) (by rw [sw]; decide) ?_
      rw [if_neg (fun q => by rw [q] at sw; revert sw; decide)] at w
      rw [if_neg (fun q => by rw [q] at sw; revert sw; decide)] at w
      rw [if_neg (fun q => by rw [q] at sw; revert sw; decide)] at w
      rw [if_pos sv] at w
      refine w_aload_n dX11_heap_71 rfl ?_
      obtain ⟨e1, w⟩ := w
      refine w_getp dX11_heap_72 lk_RX11_50 e1 rfl ?_
      refine w_iload_n dX11_heap_75 rfl ?_
      obtain ⟨e2, w⟩ := w
      refine w_callV (As := [.int l1]) (st := []) dX11_heap_76 mt_X0_greatestRank g_915 g_916 g_917 rfl e2 rfl rfl (Nat.le_of_ble_eq_true rfl) (Nat.le_refl _) ⟨Nat.le_refl _, Nat.le_refl _⟩ w ?_
      rintro v h10 ⟨r9, rfl, w⟩
      exact w_ireturn dX11_heap_79 rfl rfl ⟨Nat.le_refl _, Nat.le_refl _⟩ w
  · rw [if_pos c] at w
    refine w_bipush (v := (-2)) dX11_heap_8 rfl ?_
    exact w_ireturn dX11_heap_10 rfl rfl ⟨Nat.le_refl _, Nat.le_refl _⟩ w
set_option maxRecDepth 20000 in
set_option maxHeartbeats 4000000 in
theorem x_X11_tree {G : pm_G} {d : Nat} {post : pm_PT} {h : pm_H} {l0 : Nat} {l1 : Int32} {l2 : Int32} {l3 : Int32} (w :
    (h.1[l0]? = some (0, 10)) ∧
    ci G d m_X11_isHeap [.ref l0, .int l1] h fun r1 h2 =>
    if r1 = 0 then (
      post (some (.int (-1))) h2
    ) else (
      (h2.1[l0]? = some (0, 10)) ∧
      (h2.1[gp h2 l0 6]? = some (0, 0)) ∧
      ci G d m_X0_treeAt [.ref (gp h2 l0 6), .int l1, .int l2] h2 fun r3 h4 =>
      if r3 = (-1) then (
        post (some (.int (-1))) h4
      ) else (
        if l3 = 0 then (
          (h4.1[l0]? = some (0, 10)) ∧
          (h4.1[gp h4 l0 6]? = some (0, 0)) ∧
          (h4.1[gp h4 (gp h4 l0 6) 1]? = some (0, 6)) ∧
          ci G d m_X6_at [.ref (gp h4 (gp h4 l0 6) 1), .int r3] h4 fun r5 h6 =>
          post (some (.int r5)) h6
        ) else (
        if l3 = 1 then (
          (h4.1[l0]? = some (0, 10)) ∧
          (h4.1[gp h4 l0 6]? = some (0, 0)) ∧
          (h4.1[gp h4 (gp h4 l0 6) 2]? = some (0, 6)) ∧
          ci G d m_X6_at [.ref (gp h4 (gp h4 l0 6) 2), .int r3] h4 fun r7 h8 =>
          post (some (.int r7)) h8
        ) else (
        if l3 = 2 then (
          (h4.1[l0]? = some (0, 10)) ∧
          (h4.1[gp h4 l0 6]? = some (0, 0)) ∧
          (h4.1[gp h4 (gp h4 l0 6) 6]? = some (0, 6)) ∧
          ci G d m_X6_at [.ref (gp h4 (gp h4 l0 6) 6), .int r3] h4 fun r9 h10 =>
          post (some (.int r9)) h10
        ) else (
        if l3 = 3 then (
          (h4.1[l0]? = some (0, 10)) ∧
          (h4.1[gp h4 l0 6]? = some (0, 0)) ∧
          (h4.1[gp h4 (gp h4 l0 6) 3]? = some (0, 6)) ∧
          ci G d m_X6_at [.ref (gp h4 (gp h4 l0 6) 3), .int r3] h4 fun r11 h12 =>
          (h12.1[gp h4 l0 1]? = some (0, 4)) ∧
          cf G d m_X4_keyOf [.ref (gp h4 l0 1), .int r11] h12 fun r13 h14 =>
          ci G d m_X11_bitsOf [.float r13] h14 fun r15 h16 =>
          post (some (.int r15)) h16
        ) else (
        if l3 = 4 then (
          (h4.1[l0]? = some (0, 10)) ∧
          (h4.1[gp h4 l0 6]? = some (0, 0)) ∧
          ci G d m_X0_nodesUnder [.ref (gp h4 l0 6), .int r3] h4 fun r17 h18 =>
          post (some (.int r17)) h18
        ) else (
        post (some (.int (-1))) h4
        )))))
      )
    )) :
    Wp G (m_X11_tree, d + 1, 0, 0, post) (0, 0) 0 [.ref l0, .int l1, .int l2, .int l3, .null] [] h := by
  refine w_aload_n dX11_tree_0 rfl ?_
  refine w_iload_n dX11_tree_1 rfl ?_
  obtain ⟨e1, w⟩ := w
  refine w_callV (As := [.int l1]) (st := []) dX11_tree_2 mt_X11_isHeap g_901 g_903 g_34 rfl e1 rfl rfl (Nat.le_of_ble_eq_true rfl) (Nat.le_refl _) ⟨Nat.le_refl _, Nat.le_refl _⟩ w ?_
  rintro v h2 ⟨r1, rfl, w⟩
  refine w_if_eq (tgt := 20) dX11_tree_5 rfl (fun c => ?_) (fun c => ?_)
  · rw [if_pos c] at w
    refine w_iconst (v := (-1)) dX11_tree_20 rfl ?_
    refine v_istore (l' := [.ref l0, .int l1, .int l2, .int l3, .int (-1)]) dX11_tree_21 (Nat.le_of_ble_eq_true rfl) rfl ?_
    refine w_iload dX11_tree_23 rfl ?_
    refine w_iconst (v := (-1)) dX11_tree_25 rfl ?_
    refine w_ic_ne (tgt := 31) dX11_tree_26 rfl (fun c => ?_) (fun c => ?_)
    · exact absurd c (by decide)
    · refine w_iconst (v := (-1)) dX11_tree_29 rfl ?_
      exact w_ireturn dX11_tree_30 rfl rfl ⟨Nat.le_refl _, Nat.le_refl _⟩ w
  · rw [if_neg c] at w
    refine w_aload_n dX11_tree_8 rfl ?_
    obtain ⟨e1, w⟩ := w
    refine w_getp dX11_tree_9 lk_RX11_50 e1 rfl ?_
    refine w_iload_n dX11_tree_12 rfl ?_
    refine w_iload_n dX11_tree_13 rfl ?_
    obtain ⟨e2, w⟩ := w
    refine w_callV (As := [.int l1, .int l2]) (st := []) dX11_tree_14 mt_X0_treeAt g_923 g_924 g_925 rfl e2 rfl rfl (Nat.le_of_ble_eq_true rfl) (Nat.le_refl _) ⟨Nat.le_refl _, Nat.le_refl _⟩ w ?_
    rintro v h4 ⟨r3, rfl, w⟩
    refine w_goto (tgt := 21) dX11_tree_17 rfl ?_
    refine v_istore (l' := [.ref l0, .int l1, .int l2, .int l3, .int r3]) dX11_tree_21 (Nat.le_of_ble_eq_true rfl) rfl ?_
    refine w_iload dX11_tree_23 rfl ?_
    refine w_iconst (v := (-1)) dX11_tree_25 rfl ?_
    refine w_ic_ne (tgt := 31) dX11_tree_26 rfl (fun c => ?_) (fun c => ?_)
    · rw [if_neg c] at w
      refine w_iload_n dX11_tree_31 rfl ?_
      have sw : (l3 : Int32).toInt < 0 ∨ 4 < (l3 : Int32).toInt ∨ (l3 : Int32).toInt = 0 ∨ (l3 : Int32).toInt = 1 ∨ (l3 : Int32).toInt = 2 ∨ (l3 : Int32).toInt = 3 ∨ (l3 : Int32).toInt = 4 := by omega
      rcases sw with sw | sw | sw | sw | sw | sw | sw
      · refine w_tsw (tgt := 140) dX11_tree_32 (by rw [if_pos (by first | exact Or.inl sw | exact Or.inr sw)]; rfl) (by first | exact Or.inl sw | exact Or.inr (Or.inl sw)) ?_
        rw [if_neg (fun q => by rw [q] at sw; revert sw; decide)] at w
        rw [if_neg (fun q => by rw [q] at sw; revert sw; decide)] at w
        rw [if_neg (fun q => by rw [q] at sw; revert sw; decide)] at w
        rw [if_neg (fun q => by rw [q] at sw; revert sw; decide)] at w
        rw [if_neg (fun q => by rw [q] at sw; revert sw; decide)] at w
        refine w_iconst (v := (-1)) dX11_tree_140 rfl ?_
        exact w_ireturn dX11_tree_141 rfl rfl ⟨Nat.le_refl _, Nat.le_refl _⟩ w
      · refine w_tsw (tgt := 140) dX11_tree_32 (by rw [if_pos (by first | exact Or.inl sw | exact Or.inr sw)]; rfl) (by first | exact Or.inl sw | exact Or.inr (Or.inl sw)) ?_
        rw [if_neg (fun q => by rw [q] at sw; revert sw; decide)] at w
        rw [if_neg (fun q => by rw [q] at sw; revert sw; decide)] at w
        rw [if_neg (fun q => by rw [q] at sw; revert sw; decide)] at w
        rw [if_neg (fun q => by rw [q] at sw; revert sw; decide)] at w
        rw [if_neg (fun q => by rw [q] at sw; revert sw; decide)] at w
        refine w_iconst (v := (-1)) dX11_tree_140 rfl ?_
        exact w_ireturn dX11_tree_141 rfl rfl ⟨Nat.le_refl _, Nat.le_refl _⟩ w
      · have sv : (l3 : Int32) = 0 := Int32.toInt_inj.mp (sw.trans (by decide))
        refine w_tsw (tgt := 68) dX11_tree_32 (by rw [sw]; rfl) (by rw [sw]; decide) ?_
        rw [if_pos sv] at w
        refine w_aload_n dX11_tree_68 rfl ?_
        obtain ⟨e1, w⟩ := w
        refine w_getp dX11_tree_69 lk_RX11_50 e1 rfl ?_
        obtain ⟨e2, w⟩ := w
        refine w_getp dX11_tree_72 lk_RX11_166 e2 rfl ?_
        refine w_iload dX11_tree_75 rfl ?_
        obtain ⟨e3, w⟩ := w
        refine w_callV (As := [.int r3]) (st := []) dX11_tree_77 mt_X6_at g_892 g_724 g_725 rfl e3 rfl rfl (Nat.le_of_ble_eq_true rfl) (Nat.le_refl _) ⟨Nat.le_refl _, Nat.le_refl _⟩ w ?_
        rintro v h6 ⟨r5, rfl, w⟩
        exact w_ireturn dX11_tree_80 rfl rfl ⟨Nat.le_refl _, Nat.le_refl _⟩ w
      · have sv : (l3 : Int32) = 1 := Int32.toInt_inj.mp (sw.trans (by decide))
        refine w_tsw (tgt := 81) dX11_tree_32 (by rw [sw]; rfl) (by rw [sw]; decide) ?_
        rw [if_neg (fun q => by rw [q] at sw; revert sw; decide)] at w
        rw [if_pos sv] at w
        refine w_aload_n dX11_tree_81 rfl ?_
        obtain ⟨e1, w⟩ := w
        refine w_getp dX11_tree_82 lk_RX11_50 e1 rfl ?_
        obtain ⟨e2, w⟩ := w
        refine w_getp dX11_tree_85 lk_RX11_169 e2 rfl ?_
        refine w_iload dX11_tree_88 rfl ?_
        obtain ⟨e3, w⟩ := w
        refine w_callV (As := [.int r3]) (st := []) dX11_tree_90 mt_X6_at g_892 g_724 g_725 rfl e3 rfl rfl (Nat.le_of_ble_eq_true rfl) (Nat.le_refl _) ⟨Nat.le_refl _, Nat.le_refl _⟩ w ?_
        rintro v h8 ⟨r7, rfl, w⟩
        exact w_ireturn dX11_tree_93 rfl rfl ⟨Nat.le_refl _, Nat.le_refl _⟩ w
      · have sv : (l3 : Int32) = 2 := Int32.toInt_inj.mp (sw.trans (by decide))
        refine w_tsw (tgt := 94) dX11_tree_32 (by rw [sw]; rfl) (by rw [sw]; decide) ?_
        rw [if_neg (fun q => by rw [q] at sw; revert sw; decide)] at w
        rw [if_neg (fun q => by rw [q] at sw; revert sw; decide)] at w
        rw [if_pos sv] at w
        refine w_aload_n dX11_tree_94 rfl ?_
        obtain ⟨e1, w⟩ := w
        refine w_getp dX11_tree_95 lk_RX11_50 e1 rfl ?_
        obtain ⟨e2, w⟩ := w
        refine w_getp dX11_tree_98 lk_RX11_172 e2 rfl ?_
        refine w_iload dX11_tree_101 rfl ?_
        obtain ⟨e3, w⟩ := w
        refine w_callV (As := [.int r3]) (st := []) dX11_tree_103 mt_X6_at g_892 g_724 g_725 rfl e3 rfl rfl (Nat.le_of_ble_eq_true rfl) (Nat.le_refl _) ⟨Nat.le_refl _, Nat.le_refl _⟩ w ?_
        rintro v h10 ⟨r9, rfl, w⟩
        exact w_ireturn dX11_tree_106 rfl rfl ⟨Nat.le_refl _, Nat.le_refl _⟩ w
      · have sv : (l3 : Int32) = 3 := Int32.toInt_inj.mp (sw.trans (by decide))
        refine w_tsw (tgt := 107) dX11_tree_32 (by rw [sw]; rfl) (by rw [sw]; decide) ?_
        rw [if_neg (fun q => by rw [q] at sw; revert sw; decide)] at w
        rw [if_neg (fun q => by rw [q] at sw; revert sw; decide)] at w
        rw [if_neg (fun q => by rw [q] at sw; revert sw; decide)] at w
        rw [if_pos sv] at w
        refine w_aload_n dX11_tree_107 rfl ?_
        obtain ⟨e1, w⟩ := w
        refine w_getp dX11_tree_108 lk_RX11_19 e1 rfl ?_
        refine w_aload_n dX11_tree_111 rfl ?_
        refine w_getp dX11_tree_112 lk_RX11_50 e1 rfl ?_
        obtain ⟨e2, w⟩ := w
        refine w_getp dX11_tree_115 lk_RX11_175 e2 rfl ?_
        refine w_iload dX11_tree_118 rfl ?_
        obtain ⟨e3, w⟩ := w
        refine w_callV (As := [.int r3]) (st := [.ref (gp h4 l0 1)]) dX11_tree_120 mt_X6_at g_892 g_724 g_725 rfl e3 rfl rfl (Nat.le_of_ble_eq_true rfl) (Nat.le_refl _) ⟨Nat.le_refl _, Nat.le_refl _⟩ w ?_
        rintro v h12 ⟨r11, rfl, w⟩
        obtain ⟨e1, w⟩ := w
        refine w_callV (As := [.int r11]) (st := []) dX11_tree_123 mt_X4_keyOf g_927 g_780 g_781 rfl e1 rfl rfl (Nat.le_of_ble_eq_true rfl) (Nat.le_refl _) ⟨Nat.le_refl _, Nat.le_refl _⟩ w ?_
        rintro v h14 ⟨r13, rfl, w⟩
        refine w_callS (As := [.float r13]) (st := []) dX11_tree_126 mt_X11_bitsOf g_928 g_929 rfl rfl (Nat.le_of_ble_eq_true rfl) (Nat.le_refl _) ⟨Nat.le_refl _, Nat.le_refl _⟩ w ?_
        rintro v h16 ⟨r15, rfl, w⟩
        exact w_ireturn dX11_tree_129 rfl rfl ⟨Nat.le_refl _, Nat.le_refl _⟩ w
      · have sv : (l3 : Int32) = 4 := Int32.toInt_inj.mp (sw.trans (by decide))
        refine w_tsw (tgt := 130) dX11_tree_32 (by rw [sw]; rfl) (by rw [sw]; decide) ?_
        rw [if_neg (fun q => by rw [q] at sw; revert sw; decide)] at w
        rw [if_neg (fun q => by rw [q] at sw; revert sw; decide)] at w
        rw [if_neg (fun q => by rw [q] at sw; revert sw; decide)] at w
        rw [if_neg (fun q => by rw [q] at sw; revert sw; decide)] at w
        rw [if_pos sv] at w
        refine w_aload_n dX11_tree_130 rfl ?_
        obtain ⟨e1, w⟩ := w
        refine w_getp dX11_tree_131 lk_RX11_50 e1 rfl ?_
        refine w_iload dX11_tree_134 rfl ?_
        obtain ⟨e2, w⟩ := w
        refine w_callV (As := [.int r3]) (st := []) dX11_tree_136 mt_X0_nodesUnder g_932 g_933 g_934 rfl e2 rfl rfl (Nat.le_of_ble_eq_true rfl) (Nat.le_refl _) ⟨Nat.le_refl _, Nat.le_refl _⟩ w ?_
        rintro v h18 ⟨r17, rfl, w⟩
        exact w_ireturn dX11_tree_139 rfl rfl ⟨Nat.le_refl _, Nat.le_refl _⟩ w
    · rw [if_pos c] at w
      refine w_iconst (v := (-1)) dX11_tree_29 rfl ?_
      exact w_ireturn dX11_tree_30 rfl rfl ⟨Nat.le_refl _, Nat.le_refl _⟩ w
set_option maxRecDepth 20000 in
set_option maxHeartbeats 4000000 in
theorem x_X11_listed {G : pm_G} {d : Nat} {post : pm_PT} {h : pm_H} {l0 : Nat} {l1 : Int32} {l2 : Int32} {l3 : Int32} (w :
    (h.1[l0]? = some (0, 10)) ∧
    ci G d m_X11_isHeap [.ref l0, .int l1] h fun r1 h2 =>
    if r1 = 0 then (
      post (some (.int (-1))) h2
    ) else (
      (h2.1[l0]? = some (0, 10)) ∧
      (h2.1[gp h2 l0 6]? = some (0, 0)) ∧
      ci G d m_X0_treeAt [.ref (gp h2 l0 6), .int l1, .int l2] h2 fun r3 h4 =>
      if r3 = (-1) then (
        post (some (.int (-1))) h4
      ) else (
        (h4.1[l0]? = some (0, 10)) ∧
        (h4.1[gp h4 l0 6]? = some (0, 0)) ∧
        ci G d m_X0_listedAt [.ref (gp h4 l0 6), .int r3, .int l3] h4 fun r5 h6 =>
        post (some (.int r5)) h6
      )
    )) :
    Wp G (m_X11_listed, d + 1, 0, 0, post) (0, 0) 0 [.ref l0, .int l1, .int l2, .int l3, .null] [] h := by
  refine w_aload_n dX11_listed_0 rfl ?_
  refine w_iload_n dX11_listed_1 rfl ?_
  obtain ⟨e1, w⟩ := w
  refine w_callV (As := [.int l1]) (st := []) dX11_listed_2 mt_X11_isHeap g_901 g_903 g_34 rfl e1 rfl rfl (Nat.le_of_ble_eq_true rfl) (Nat.le_refl _) ⟨Nat.le_refl _, Nat.le_refl _⟩ w ?_
  rintro v h2 ⟨r1, rfl, w⟩
  refine w_if_eq (tgt := 20) dX11_listed_5 rfl (fun c => ?_) (fun c => ?_)
  · rw [if_pos c] at w
    refine w_iconst (v := (-1)) dX11_listed_20 rfl ?_
    refine v_istore (l' := [.ref l0, .int l1, .int l2, .int l3, .int (-1)]) dX11_listed_21 (Nat.le_of_ble_eq_true rfl) rfl ?_
    refine w_iload dX11_listed_23 rfl ?_
    refine w_iconst (v := (-1)) dX11_listed_25 rfl ?_
    refine w_ic_ne (tgt := 33) dX11_listed_26 rfl (fun c => ?_) (fun c => ?_)
    · exact absurd c (by decide)
    · refine w_iconst (v := (-1)) dX11_listed_29 rfl ?_
      refine w_goto (tgt := 43) dX11_listed_30 rfl ?_
      exact w_ireturn dX11_listed_43 rfl rfl ⟨Nat.le_refl _, Nat.le_refl _⟩ w
  · rw [if_neg c] at w
    refine w_aload_n dX11_listed_8 rfl ?_
    obtain ⟨e1, w⟩ := w
    refine w_getp dX11_listed_9 lk_RX11_50 e1 rfl ?_
    refine w_iload_n dX11_listed_12 rfl ?_
    refine w_iload_n dX11_listed_13 rfl ?_
    obtain ⟨e2, w⟩ := w
    refine w_callV (As := [.int l1, .int l2]) (st := []) dX11_listed_14 mt_X0_treeAt g_923 g_924 g_925 rfl e2 rfl rfl (Nat.le_of_ble_eq_true rfl) (Nat.le_refl _) ⟨Nat.le_refl _, Nat.le_refl _⟩ w ?_
    rintro v h4 ⟨r3, rfl, w⟩
    refine w_goto (tgt := 21) dX11_listed_17 rfl ?_
    refine v_istore (l' := [.ref l0, .int l1, .int l2, .int l3, .int r3]) dX11_listed_21 (Nat.le_of_ble_eq_true rfl) rfl ?_
    refine w_iload dX11_listed_23 rfl ?_
    refine w_iconst (v := (-1)) dX11_listed_25 rfl ?_
    refine w_ic_ne (tgt := 33) dX11_listed_26 rfl (fun c => ?_) (fun c => ?_)
    · rw [if_neg c] at w
      refine w_aload_n dX11_listed_33 rfl ?_
      obtain ⟨e1, w⟩ := w
      refine w_getp dX11_listed_34 lk_RX11_50 e1 rfl ?_
      refine w_iload dX11_listed_37 rfl ?_
      refine w_iload_n dX11_listed_39 rfl ?_
      obtain ⟨e2, w⟩ := w
      refine w_callV (As := [.int r3, .int l3]) (st := []) dX11_listed_40 mt_X0_listedAt g_944 g_945 g_946 rfl e2 rfl rfl (Nat.le_of_ble_eq_true rfl) (Nat.le_refl _) ⟨Nat.le_refl _, Nat.le_refl _⟩ w ?_
      rintro v h6 ⟨r5, rfl, w⟩
      exact w_ireturn dX11_listed_43 rfl rfl ⟨Nat.le_refl _, Nat.le_refl _⟩ w
    · rw [if_pos c] at w
      refine w_iconst (v := (-1)) dX11_listed_29 rfl ?_
      refine w_goto (tgt := 43) dX11_listed_30 rfl ?_
      exact w_ireturn dX11_listed_43 rfl rfl ⟨Nat.le_refl _, Nat.le_refl _⟩ w
set_option maxRecDepth 20000 in
set_option maxHeartbeats 4000000 in
theorem x_X11_shelf {G : pm_G} {d : Nat} {post : pm_PT} {h : pm_H} {l0 : Nat} {l1 : Int32} (w :
    (h.1[l0]? = some (0, 10)) ∧
    ci G d m_X11_isShelf [.ref l0, .int l1] h fun r1 h2 =>
    if r1 = 0 then (
      post (some (.int (-1))) h2
    ) else (
      (h2.1[l0]? = some (0, 10)) ∧
      (h2.1[gp h2 l0 6]? = some (0, 0)) ∧
      ci G d m_X0_itemsOn [.ref (gp h2 l0 6), .int l1] h2 fun r3 h4 =>
      post (some (.int r3)) h4
    )) :
    Wp G (m_X11_shelf, d + 1, 0, 0, post) (0, 0) 0 [.ref l0, .int l1] [] h := by
  refine w_aload_n dX11_shelf_0 rfl ?_
  refine w_iload_n dX11_shelf_1 rfl ?_
  obtain ⟨e1, w⟩ := w
  refine w_callV (As := [.int l1]) (st := []) dX11_shelf_2 mt_X11_isShelf g_952 g_954 g_36 rfl e1 rfl rfl (Nat.le_of_ble_eq_true rfl) (Nat.le_refl _) ⟨Nat.le_refl _, Nat.le_refl _⟩ w ?_
  rintro v h2 ⟨r1, rfl, w⟩
  refine w_if_eq (tgt := 19) dX11_shelf_5 rfl (fun c => ?_) (fun c => ?_)
  · rw [if_pos c] at w
    refine w_iconst (v := (-1)) dX11_shelf_19 rfl ?_
    exact w_ireturn dX11_shelf_20 rfl rfl ⟨Nat.le_refl _, Nat.le_refl _⟩ w
  · rw [if_neg c] at w
    refine w_aload_n dX11_shelf_8 rfl ?_
    obtain ⟨e1, w⟩ := w
    refine w_getp dX11_shelf_9 lk_RX11_50 e1 rfl ?_
    refine w_iload_n dX11_shelf_12 rfl ?_
    obtain ⟨e2, w⟩ := w
    refine w_callV (As := [.int l1]) (st := []) dX11_shelf_13 mt_X0_itemsOn g_956 g_957 g_958 rfl e2 rfl rfl (Nat.le_of_ble_eq_true rfl) (Nat.le_refl _) ⟨Nat.le_refl _, Nat.le_refl _⟩ w ?_
    rintro v h4 ⟨r3, rfl, w⟩
    refine w_goto (tgt := 20) dX11_shelf_16 rfl ?_
    exact w_ireturn dX11_shelf_20 rfl rfl ⟨Nat.le_refl _, Nat.le_refl _⟩ w
set_option maxRecDepth 20000 in
set_option maxHeartbeats 4000000 in
theorem x_X11_put {G : pm_G} {d : Nat} {post : pm_PT} {h : pm_H} {l0 : Nat} {l1 : Int32} {l2 : Int32} (w :
    (h.1[l0]? = some (0, 10)) ∧
    ci G d m_X11_isItem [.ref l0, .int l1] h fun r1 h2 =>
    if r1 = 0 then (
      post (some (.int 0)) h2
    ) else (
      (h2.1[l0]? = some (0, 10)) ∧
      ci G d m_X11_isHeap [.ref l0, .int l2] h2 fun r3 h4 =>
      if r3 = 0 then (
        post (some (.int 0)) h4
      ) else (
        (h4.1[l0]? = some (0, 10)) ∧
        (h4.1[gp h4 l0 6]? = some (0, 0)) ∧
        (h4.1[gp h4 (gp h4 l0 6) 13]? = some (0, 6)) ∧
        ci G d m_X6_at [.ref (gp h4 (gp h4 l0 6) 13), .int l1] h4 fun r5 h6 =>
        if r5 = (-1) then (
          (h6.1[l0]? = some (0, 10)) ∧
          cv G d m_X11_remember [.ref l0] h6 fun h8 =>
          (h8.1[l0]? = some (0, 10)) ∧
          (h8.1[gp h8 l0 6]? = some (0, 0)) ∧
          ci G d m_X0_putIn [.ref (gp h8 l0 6), .int l1, .int l2] h8 fun r9 h10 =>
          (r9 = 0 ∨ r9 = 1) ∧
          post (some (.int r9)) h10
        ) else (
          post (some (.int 0)) h6
        )
      )
    )) :
    Wp G (m_X11_put, d + 1, 0, 0, post) (0, 0) 0 [.ref l0, .int l1, .int l2] [] h := by
  refine w_aload_n dX11_put_0 rfl ?_
  refine w_iload_n dX11_put_1 rfl ?_
  obtain ⟨e1, w⟩ := w
  refine w_callV (As := [.int l1]) (st := []) dX11_put_2 mt_X11_isItem g_888 g_890 g_33 rfl e1 rfl rfl (Nat.le_of_ble_eq_true rfl) (Nat.le_refl _) ⟨Nat.le_refl _, Nat.le_refl _⟩ w ?_
  rintro v h2 ⟨r1, rfl, w⟩
  refine w_if_eq (tgt := 31) dX11_put_5 rfl (fun c => ?_) (fun c => ?_)
  · rw [if_pos c] at w
    refine w_iconst (v := 0) dX11_put_31 rfl ?_
    exact w_ireturn dX11_put_32 rfl rfl ⟨Nat.le_refl _, Nat.le_refl _⟩ w
  · rw [if_neg c] at w
    refine w_aload_n dX11_put_8 rfl ?_
    refine w_iload_n dX11_put_9 rfl ?_
    obtain ⟨e1, w⟩ := w
    refine w_callV (As := [.int l2]) (st := []) dX11_put_10 mt_X11_isHeap g_901 g_903 g_34 rfl e1 rfl rfl (Nat.le_of_ble_eq_true rfl) (Nat.le_refl _) ⟨Nat.le_refl _, Nat.le_refl _⟩ w ?_
    rintro v h4 ⟨r3, rfl, w⟩
    refine w_if_eq (tgt := 31) dX11_put_13 rfl (fun c => ?_) (fun c => ?_)
    · rw [if_pos c] at w
      refine w_iconst (v := 0) dX11_put_31 rfl ?_
      exact w_ireturn dX11_put_32 rfl rfl ⟨Nat.le_refl _, Nat.le_refl _⟩ w
    · rw [if_neg c] at w
      refine w_aload_n dX11_put_16 rfl ?_
      obtain ⟨e1, w⟩ := w
      refine w_getp dX11_put_17 lk_RX11_50 e1 rfl ?_
      obtain ⟨e2, w⟩ := w
      refine w_getp dX11_put_20 lk_RX11_135 e2 rfl ?_
      refine w_iload_n dX11_put_23 rfl ?_
      obtain ⟨e3, w⟩ := w
      refine w_callV (As := [.int l1]) (st := []) dX11_put_24 mt_X6_at g_892 g_724 g_725 rfl e3 rfl rfl (Nat.le_of_ble_eq_true rfl) (Nat.le_refl _) ⟨Nat.le_refl _, Nat.le_refl _⟩ w ?_
      rintro v h6 ⟨r5, rfl, w⟩
      refine w_iconst (v := (-1)) dX11_put_27 rfl ?_
      refine w_ic_eq (tgt := 33) dX11_put_28 rfl (fun c => ?_) (fun c => ?_)
      · rw [if_pos c] at w
        refine w_aload_n dX11_put_33 rfl ?_
        obtain ⟨e1, w⟩ := w
        refine w_callV (As := []) (st := []) dX11_put_34 mt_X11_remember g_964 g_966 g_37 rfl e1 rfl rfl (Nat.le_of_ble_eq_true rfl) (Nat.le_refl _) ⟨Nat.le_refl _, Nat.le_refl _⟩ w ?_
        rintro v h8 ⟨rfl, w⟩
        refine w_aload_n dX11_put_37 rfl ?_
        obtain ⟨e1, w⟩ := w
        refine w_getp dX11_put_38 lk_RX11_50 e1 rfl ?_
        refine w_iload_n dX11_put_41 rfl ?_
        refine w_iload_n dX11_put_42 rfl ?_
        obtain ⟨e2, w⟩ := w
        refine w_callV (As := [.int l1, .int l2]) (st := []) dX11_put_43 mt_X0_putIn g_978 g_799 g_800 rfl e2 rfl rfl (Nat.le_of_ble_eq_true rfl) (Nat.le_refl _) ⟨Nat.le_refl _, Nat.le_refl _⟩ w ?_
        rintro v h10 ⟨r9, rfl, w⟩
        obtain ⟨e1, w⟩ := w
        exact w_ireturn dX11_put_46 rfl (pm_nz e1) ⟨Nat.le_refl _, Nat.le_refl _⟩ w
      · rw [if_neg c] at w
        refine w_iconst (v := 0) dX11_put_31 rfl ?_
        exact w_ireturn dX11_put_32 rfl rfl ⟨Nat.le_refl _, Nat.le_refl _⟩ w
set_option maxRecDepth 20000 in
set_option maxHeartbeats 4000000 in
theorem x_X11_take {G : pm_G} {d : Nat} {post : pm_PT} {h : pm_H} {l0 : Nat} {l1 : Int32} (w :
    (h.1[l0]? = some (0, 10)) ∧
    ci G d m_X11_isHeap [.ref l0, .int l1] h fun r1 h2 =>
    if r1 = 0 then (
      post (some (.int (-1))) h2
    ) else (
      (h2.1[l0]? = some (0, 10)) ∧
      (h2.1[gp h2 l0 6]? = some (0, 0)) ∧
      ci G d m_X0_itemsIn [.ref (gp h2 l0 6), .int l1] h2 fun r3 h4 =>
      if r3 = 0 then (
        post (some (.int (-1))) h4
      ) else (
        (h4.1[l0]? = some (0, 10)) ∧
        cv G d m_X11_remember [.ref l0] h4 fun h6 =>
        (h6.1[l0]? = some (0, 10)) ∧
        (h6.1[gp h6 l0 6]? = some (0, 0)) ∧
        ci G d m_X0_takeFrom [.ref (gp h6 l0 6), .int l1] h6 fun r7 h8 =>
        post (some (.int r7)) h8
      )
    )) :
    Wp G (m_X11_take, d + 1, 0, 0, post) (0, 0) 0 [.ref l0, .int l1] [] h := by
  refine w_aload_n dX11_take_0 rfl ?_
  refine w_iload_n dX11_take_1 rfl ?_
  obtain ⟨e1, w⟩ := w
  refine w_callV (As := [.int l1]) (st := []) dX11_take_2 mt_X11_isHeap g_901 g_903 g_34 rfl e1 rfl rfl (Nat.le_of_ble_eq_true rfl) (Nat.le_refl _) ⟨Nat.le_refl _, Nat.le_refl _⟩ w ?_
  rintro v h2 ⟨r1, rfl, w⟩
  refine w_if_eq (tgt := 19) dX11_take_5 rfl (fun c => ?_) (fun c => ?_)
  · rw [if_pos c] at w
    refine w_iconst (v := (-1)) dX11_take_19 rfl ?_
    exact w_ireturn dX11_take_20 rfl rfl ⟨Nat.le_refl _, Nat.le_refl _⟩ w
  · rw [if_neg c] at w
    refine w_aload_n dX11_take_8 rfl ?_
    obtain ⟨e1, w⟩ := w
    refine w_getp dX11_take_9 lk_RX11_50 e1 rfl ?_
    refine w_iload_n dX11_take_12 rfl ?_
    obtain ⟨e2, w⟩ := w
    refine w_callV (As := [.int l1]) (st := []) dX11_take_13 mt_X0_itemsIn g_905 g_812 g_813 rfl e2 rfl rfl (Nat.le_of_ble_eq_true rfl) (Nat.le_refl _) ⟨Nat.le_refl _, Nat.le_refl _⟩ w ?_
    rintro v h4 ⟨r3, rfl, w⟩
    refine w_if_ne (tgt := 21) dX11_take_16 rfl (fun c => ?_) (fun c => ?_)
    · rw [if_neg c] at w
      refine w_aload_n dX11_take_21 rfl ?_
      obtain ⟨e1, w⟩ := w
      refine w_callV (As := []) (st := []) dX11_take_22 mt_X11_remember g_964 g_966 g_37 rfl e1 rfl rfl (Nat.le_of_ble_eq_true rfl) (Nat.le_refl _) ⟨Nat.le_refl _, Nat.le_refl _⟩ w ?_
      rintro v h6 ⟨rfl, w⟩
      refine w_aload_n dX11_take_25 rfl ?_
      obtain ⟨e1, w⟩ := w
      refine w_getp dX11_take_26 lk_RX11_50 e1 rfl ?_
      refine w_iload_n dX11_take_29 rfl ?_
      obtain ⟨e2, w⟩ := w
      refine w_callV (As := [.int l1]) (st := []) dX11_take_30 mt_X0_takeFrom g_983 g_984 g_985 rfl e2 rfl rfl (Nat.le_of_ble_eq_true rfl) (Nat.le_refl _) ⟨Nat.le_refl _, Nat.le_refl _⟩ w ?_
      rintro v h8 ⟨r7, rfl, w⟩
      exact w_ireturn dX11_take_33 rfl rfl ⟨Nat.le_refl _, Nat.le_refl _⟩ w
    · rw [if_pos c] at w
      refine w_iconst (v := (-1)) dX11_take_19 rfl ?_
      exact w_ireturn dX11_take_20 rfl rfl ⟨Nat.le_refl _, Nat.le_refl _⟩ w
set_option maxRecDepth 20000 in
set_option maxHeartbeats 4000000 in
theorem x_X11_meld {G : pm_G} {d : Nat} {post : pm_PT} {h : pm_H} {l0 : Nat} {l1 : Int32} {l2 : Int32} (w :
    (h.1[l0]? = some (0, 10)) ∧
    ci G d m_X11_isHeap [.ref l0, .int l1] h fun r1 h2 =>
    if r1 = 0 then (
      post (some (.int 0)) h2
    ) else (
      (h2.1[l0]? = some (0, 10)) ∧
      ci G d m_X11_isHeap [.ref l0, .int l2] h2 fun r3 h4 =>
      if r3 = 0 then (
        post (some (.int 0)) h4
      ) else (
        if l1 = l2 then (
          post (some (.int 0)) h4
        ) else (
          (h4.1[l0]? = some (0, 10)) ∧
          cv G d m_X11_remember [.ref l0] h4 fun h6 =>
          (h6.1[l0]? = some (0, 10)) ∧
          (h6.1[gp h6 l0 6]? = some (0, 0)) ∧
          ci G d m_X0_meldInto [.ref (gp h6 l0 6), .int l1, .int l2] h6 fun r7 h8 =>
          (r7 = 0 ∨ r7 = 1) ∧
          post (some (.int r7)) h8
        )
      )
    )) :
    Wp G (m_X11_meld, d + 1, 0, 0, post) (0, 0) 0 [.ref l0, .int l1, .int l2] [] h := by
  refine w_aload_n dX11_meld_0 rfl ?_
  refine w_iload_n dX11_meld_1 rfl ?_
  obtain ⟨e1, w⟩ := w
  refine w_callV (As := [.int l1]) (st := []) dX11_meld_2 mt_X11_isHeap g_901 g_903 g_34 rfl e1 rfl rfl (Nat.le_of_ble_eq_true rfl) (Nat.le_refl _) ⟨Nat.le_refl _, Nat.le_refl _⟩ w ?_
  rintro v h2 ⟨r1, rfl, w⟩
  refine w_if_eq (tgt := 21) dX11_meld_5 rfl (fun c => ?_) (fun c => ?_)
  · rw [if_pos c] at w
    refine w_iconst (v := 0) dX11_meld_21 rfl ?_
    exact w_ireturn dX11_meld_22 rfl rfl ⟨Nat.le_refl _, Nat.le_refl _⟩ w
  · rw [if_neg c] at w
    refine w_aload_n dX11_meld_8 rfl ?_
    refine w_iload_n dX11_meld_9 rfl ?_
    obtain ⟨e1, w⟩ := w
    refine w_callV (As := [.int l2]) (st := []) dX11_meld_10 mt_X11_isHeap g_901 g_903 g_34 rfl e1 rfl rfl (Nat.le_of_ble_eq_true rfl) (Nat.le_refl _) ⟨Nat.le_refl _, Nat.le_refl _⟩ w ?_
    rintro v h4 ⟨r3, rfl, w⟩
    refine w_if_eq (tgt := 21) dX11_meld_13 rfl (fun c => ?_) (fun c => ?_)
    · rw [if_pos c] at w
      refine w_iconst (v := 0) dX11_meld_21 rfl ?_
      exact w_ireturn dX11_meld_22 rfl rfl ⟨Nat.le_refl _, Nat.le_refl _⟩ w
    · rw [if_neg c] at w
      refine w_iload_n dX11_meld_16 rfl ?_
      refine w_iload_n dX11_meld_17 rfl ?_
      refine w_ic_ne (tgt := 23) dX11_meld_18 rfl (fun c => ?_) (fun c => ?_)
      · rw [if_neg c] at w
        refine w_aload_n dX11_meld_23 rfl ?_
        obtain ⟨e1, w⟩ := w
        refine w_callV (As := []) (st := []) dX11_meld_24 mt_X11_remember g_964 g_966 g_37 rfl e1 rfl rfl (Nat.le_of_ble_eq_true rfl) (Nat.le_refl _) ⟨Nat.le_refl _, Nat.le_refl _⟩ w ?_
        rintro v h6 ⟨rfl, w⟩
        refine w_aload_n dX11_meld_27 rfl ?_
        obtain ⟨e1, w⟩ := w
        refine w_getp dX11_meld_28 lk_RX11_50 e1 rfl ?_
        refine w_iload_n dX11_meld_31 rfl ?_
        refine w_iload_n dX11_meld_32 rfl ?_
        obtain ⟨e2, w⟩ := w
        refine w_callV (As := [.int l1, .int l2]) (st := []) dX11_meld_33 mt_X0_meldInto g_995 g_996 g_997 rfl e2 rfl rfl (Nat.le_of_ble_eq_true rfl) (Nat.le_refl _) ⟨Nat.le_refl _, Nat.le_refl _⟩ w ?_
        rintro v h8 ⟨r7, rfl, w⟩
        obtain ⟨e1, w⟩ := w
        exact w_ireturn dX11_meld_36 rfl (pm_nz e1) ⟨Nat.le_refl _, Nat.le_refl _⟩ w
      · rw [if_pos c] at w
        refine w_iconst (v := 0) dX11_meld_21 rfl ?_
        exact w_ireturn dX11_meld_22 rfl rfl ⟨Nat.le_refl _, Nat.le_refl _⟩ w
set_option maxRecDepth 20000 in
set_option maxHeartbeats 4000000 in
theorem x_X11_shelve {G : pm_G} {d : Nat} {post : pm_PT} {h : pm_H} {l0 : Nat} {l1 : Int32} {l2 : Int32} (w :
    (h.1[l0]? = some (0, 10)) ∧
    ci G d m_X11_isHeap [.ref l0, .int l1] h fun r1 h2 =>
    if r1 = 0 then (
      post (some (.int (-1))) h2
    ) else (
      (h2.1[l0]? = some (0, 10)) ∧
      ci G d m_X11_isShelf [.ref l0, .int l2] h2 fun r3 h4 =>
      if r3 = 0 then (
        post (some (.int (-1))) h4
      ) else (
        (h4.1[l0]? = some (0, 10)) ∧
        (h4.1[gp h4 l0 6]? = some (0, 0)) ∧
        ci G d m_X0_itemsIn [.ref (gp h4 l0 6), .int l1] h4 fun r5 h6 =>
        if r5 = 0 then (
          post (some (.int (-1))) h6
        ) else (
          (h6.1[l0]? = some (0, 10)) ∧
          cv G d m_X11_remember [.ref l0] h6 fun h8 =>
          (h8.1[l0]? = some (0, 10)) ∧
          (h8.1[gp h8 l0 6]? = some (0, 0)) ∧
          ci G d m_X0_shelveFrom [.ref (gp h8 l0 6), .int l1, .int l2] h8 fun r9 h10 =>
          post (some (.int r9)) h10
        )
      )
    )) :
    Wp G (m_X11_shelve, d + 1, 0, 0, post) (0, 0) 0 [.ref l0, .int l1, .int l2] [] h := by
  refine w_aload_n dX11_shelve_0 rfl ?_
  refine w_iload_n dX11_shelve_1 rfl ?_
  obtain ⟨e1, w⟩ := w
  refine w_callV (As := [.int l1]) (st := []) dX11_shelve_2 mt_X11_isHeap g_901 g_903 g_34 rfl e1 rfl rfl (Nat.le_of_ble_eq_true rfl) (Nat.le_refl _) ⟨Nat.le_refl _, Nat.le_refl _⟩ w ?_
  rintro v h2 ⟨r1, rfl, w⟩
  refine w_if_eq (tgt := 27) dX11_shelve_5 rfl (fun c => ?_) (fun c => ?_)
  · rw [if_pos c] at w
    refine w_iconst (v := (-1)) dX11_shelve_27 rfl ?_
    exact w_ireturn dX11_shelve_28 rfl rfl ⟨Nat.le_refl _, Nat.le_refl _⟩ w
  · rw [if_neg c] at w
    refine w_aload_n dX11_shelve_8 rfl ?_
    refine w_iload_n dX11_shelve_9 rfl ?_
    obtain ⟨e1, w⟩ := w
    refine w_callV (As := [.int l2]) (st := []) dX11_shelve_10 mt_X11_isShelf g_952 g_954 g_36 rfl e1 rfl rfl (Nat.le_of_ble_eq_true rfl) (Nat.le_refl _) ⟨Nat.le_refl _, Nat.le_refl _⟩ w ?_
    rintro v h4 ⟨r3, rfl, w⟩
    refine w_if_eq (tgt := 27) dX11_shelve_13 rfl (fun c => ?_) (fun c => ?_)
    · rw [if_pos c] at w
      refine w_iconst (v := (-1)) dX11_shelve_27 rfl ?_
      exact w_ireturn dX11_shelve_28 rfl rfl ⟨Nat.le_refl _, Nat.le_refl _⟩ w
    · rw [if_neg c] at w
      refine w_aload_n dX11_shelve_16 rfl ?_
      obtain ⟨e1, w⟩ := w
      refine w_getp dX11_shelve_17 lk_RX11_50 e1 rfl ?_
      refine w_iload_n dX11_shelve_20 rfl ?_
      obtain ⟨e2, w⟩ := w
      refine w_callV (As := [.int l1]) (st := []) dX11_shelve_21 mt_X0_itemsIn g_905 g_812 g_813 rfl e2 rfl rfl (Nat.le_of_ble_eq_true rfl) (Nat.le_refl _) ⟨Nat.le_refl _, Nat.le_refl _⟩ w ?_
      rintro v h6 ⟨r5, rfl, w⟩
      refine w_if_ne (tgt := 29) dX11_shelve_24 rfl (fun c => ?_) (fun c => ?_)
      · rw [if_neg c] at w
        refine w_aload_n dX11_shelve_29 rfl ?_
        obtain ⟨e1, w⟩ := w
        refine w_callV (As := []) (st := []) dX11_shelve_30 mt_X11_remember g_964 g_966 g_37 rfl e1 rfl rfl (Nat.le_of_ble_eq_true rfl) (Nat.le_refl _) ⟨Nat.le_refl _, Nat.le_refl _⟩ w ?_
        rintro v h8 ⟨rfl, w⟩
        refine w_aload_n dX11_shelve_33 rfl ?_
        obtain ⟨e1, w⟩ := w
        refine w_getp dX11_shelve_34 lk_RX11_50 e1 rfl ?_
        refine w_iload_n dX11_shelve_37 rfl ?_
        refine w_iload_n dX11_shelve_38 rfl ?_
        obtain ⟨e2, w⟩ := w
        refine w_callV (As := [.int l1, .int l2]) (st := []) dX11_shelve_39 mt_X0_shelveFrom g_1003 g_1004 g_1005 rfl e2 rfl rfl (Nat.le_of_ble_eq_true rfl) (Nat.le_refl _) ⟨Nat.le_refl _, Nat.le_refl _⟩ w ?_
        rintro v h10 ⟨r9, rfl, w⟩
        exact w_ireturn dX11_shelve_42 rfl rfl ⟨Nat.le_refl _, Nat.le_refl _⟩ w
      · rw [if_pos c] at w
        refine w_iconst (v := (-1)) dX11_shelve_27 rfl ?_
        exact w_ireturn dX11_shelve_28 rfl rfl ⟨Nat.le_refl _, Nat.le_refl _⟩ w
set_option maxRecDepth 20000 in
set_option maxHeartbeats 4000000 in
theorem x_X11_undo {G : pm_G} {d : Nat} {post : pm_PT} {h : pm_H} {l0 : Nat} (w :
    (h.1[l0]? = some (0, 10)) ∧
    if (gi h l0 13) = 0 then (
      post (some (.int 0)) h
    ) else (
      cp G d m_X11_forestAt [.ref l0, .ref (gp h l0 11), .int (gi h l0 12)] h fun r1 h2 =>
      (h2.1[gp h l0 6]? = some (0, 0)) ∧
      cv G d m_X0_copyFrom [.ref (gp h l0 6), .ref r1] h2 fun h4 =>
      (h4.1[l0]? = some (0, 10)) ∧
      ∀ h5 : pm_H, h5 = si h4 l0 12 ((((gi h4 l0 12) + 8) - 1) - (((gi h4 l0 12) + 8) - 1) / 8 * 8) →
      ∀ h6 : pm_H, h6 = si h5 l0 13 ((gi h5 l0 13) - 1) →
      post (some (.int 1)) h6
    )) :
    Wp G (m_X11_undo, d + 1, 0, 0, post) (0, 0) 0 [.ref l0] [] h := by
  refine w_aload_n dX11_undo_0 rfl ?_
  obtain ⟨e1, w⟩ := w
  refine w_geti dX11_undo_1 lk_RX11_84 e1 rfl ?_
  refine w_if_ne (tgt := 9) dX11_undo_4 rfl (fun c => ?_) (fun c => ?_)
  · rw [if_neg c] at w
    refine w_aload_n dX11_undo_9 rfl ?_
    refine w_getp dX11_undo_10 lk_RX11_50 e1 rfl ?_
    refine w_aload_n dX11_undo_13 rfl ?_
    refine w_aload_n dX11_undo_14 rfl ?_
    refine w_getp dX11_undo_15 lk_RX11_77 e1 rfl ?_
    refine w_aload_n dX11_undo_18 rfl ?_
    refine w_geti dX11_undo_19 lk_RX11_81 e1 rfl ?_
    refine w_callV (As := [.ref (gp h l0 11), .int (gi h l0 12)]) (st := [.ref (gp h l0 6)]) dX11_undo_22 mt_X11_forestAt g_968 g_970 g_38 rfl e1 rfl rfl (Nat.le_of_ble_eq_true rfl) (Nat.le_refl _) ⟨Nat.le_refl _, Nat.le_refl _⟩ w ?_
    rintro v h2 ⟨r1, rfl, w⟩
    obtain ⟨e1, w⟩ := w
    refine w_callV (As := [.ref r1]) (st := []) dX11_undo_25 mt_X0_copyFrom g_972 g_973 g_974 rfl e1 rfl rfl (Nat.le_of_ble_eq_true rfl) (Nat.le_refl _) ⟨Nat.le_refl _, Nat.le_refl _⟩ w ?_
    rintro v h4 ⟨rfl, w⟩
    refine w_aload_n dX11_undo_28 rfl ?_
    refine w_aload_n dX11_undo_29 rfl ?_
    obtain ⟨e1, w⟩ := w
    refine w_geti dX11_undo_30 lk_RX11_81 e1 rfl ?_
    refine w_bipush (v := 8) dX11_undo_33 rfl ?_
    refine w_iadd dX11_undo_35 ?_
    refine w_iconst (v := 1) dX11_undo_36 rfl ?_
    refine w_isub dX11_undo_37 ?_
    refine w_bipush (v := 8) dX11_undo_38 rfl ?_
    refine w_irem dX11_undo_40 (by decide) ?_
    refine w_puti dX11_undo_41 lk_RX11_81 e1 rfl (Or.inl rfl) ?_
    have w := w _ rfl
    refine w_aload_n dX11_undo_44 rfl ?_
    refine w_dup dX11_undo_45 rfl ?_
    refine w_geti dX11_undo_46 lk_RX11_84 e1 rfl ?_
    refine w_iconst (v := 1) dX11_undo_49 rfl ?_
    refine w_isub dX11_undo_50 ?_
    refine w_puti dX11_undo_51 lk_RX11_84 e1 rfl (Or.inl rfl) ?_
    have w := w _ rfl
    refine w_iconst (v := 1) dX11_undo_54 rfl ?_
    exact w_ireturn dX11_undo_55 rfl rfl ⟨Nat.le_refl _, Nat.le_refl _⟩ w
  · rw [if_pos c] at w
    refine w_iconst (v := 0) dX11_undo_7 rfl ?_
    exact w_ireturn dX11_undo_8 rfl rfl ⟨Nat.le_refl _, Nat.le_refl _⟩ w
set_option maxRecDepth 20000 in
set_option maxHeartbeats 4000000 in
theorem x_X11_judged {G : pm_G} {d : Nat} {post : pm_PT} {h : pm_H} {l0 : Nat} {l1 : Int32} (w :
    if l1 < 0 then (
      post (some (.int (-2))) h
    ) else (
      if l1 ≤ 2 then (
        (h.1[l0]? = some (0, 10)) ∧
        (h.1[gp h l0 7]? = some (0, 8)) ∧
        ci G d m_X8_judge [.ref (gp h l0 7), .ref (gp h l0 3)] h fun r1 h2 =>
        if l1 = 0 then (
          post (some (.int r1)) h2
        ) else (
          if l1 = 1 then (
            (h2.1[l0]? = some (0, 10)) ∧
            (h2.1[gp h2 l0 7]? = some (0, 8)) ∧
            (h2.1[gp h2 (gp h2 l0 7) 1]? = some (0, 0)) ∧
            ci G d m_X0_itemsOnFloor [.ref (gp h2 (gp h2 l0 7) 1)] h2 fun r3 h4 =>
            post (some (.int r3)) h4
          ) else (
            (h2.1[l0]? = some (0, 10)) ∧
            (h2.1[gp h2 l0 7]? = some (0, 8)) ∧
            (h2.1[gp h2 (gp h2 l0 7) 1]? = some (0, 0)) ∧
            ci G d m_X0_raisedInAll [.ref (gp h2 (gp h2 l0 7) 1)] h2 fun r5 h6 =>
            post (some (.int r5)) h6
          )
        )
      ) else (
        post (some (.int (-2))) h
      )
    )) :
    Wp G (m_X11_judged, d + 1, 0, 0, post) (0, 0) 0 [.ref l0, .int l1, .null] [] h := by
  refine w_iload_n dX11_judged_0 rfl ?_
  refine w_if_lt (tgt := 9) dX11_judged_1 rfl (fun c => ?_) (fun c => ?_)
  · rw [if_pos c] at w
    refine w_bipush (v := (-2)) dX11_judged_9 rfl ?_
    exact w_ireturn dX11_judged_11 rfl rfl ⟨Nat.le_refl _, Nat.le_refl _⟩ w
  · rw [if_neg c] at w
    refine w_iload_n dX11_judged_4 rfl ?_
    refine w_iconst (v := 2) dX11_judged_5 rfl ?_
    refine w_ic_le (tgt := 12) dX11_judged_6 rfl (fun c => ?_) (fun c => ?_)
    · rw [if_pos c] at w
      refine w_aload_n dX11_judged_12 rfl ?_
      obtain ⟨e1, w⟩ := w
      refine w_getp dX11_judged_13 lk_RX11_57 e1 rfl ?_
      refine w_aload_n dX11_judged_16 rfl ?_
      refine w_getp dX11_judged_17 lk_RX11_29 e1 rfl ?_
      obtain ⟨e2, w⟩ := w
      refine w_callV (As := [.ref (gp h l0 3)]) (st := []) dX11_judged_20 mt_X8_judge g_1020 g_1021 g_1022 rfl e2 rfl rfl (Nat.le_of_ble_eq_true rfl) (Nat.le_refl _) ⟨Nat.le_refl _, Nat.le_refl _⟩ w ?_
      rintro v h2 ⟨r1, rfl, w⟩
      refine v_istore_n (l' := [.ref l0, .int l1, .int r1]) dX11_judged_23 (Nat.le_of_ble_eq_true rfl) rfl ?_
      refine w_iload_n dX11_judged_24 rfl ?_
      refine w_if_ne (tgt := 30) dX11_judged_25 rfl (fun c => ?_) (fun c => ?_)
      · rw [if_neg c] at w
        refine w_iload_n dX11_judged_30 rfl ?_
        refine w_iconst (v := 1) dX11_judged_31 rfl ?_
        refine w_ic_ne (tgt := 48) dX11_judged_32 rfl (fun c => ?_) (fun c => ?_)
        · rw [if_neg c] at w
          refine w_aload_n dX11_judged_48 rfl ?_
          obtain ⟨e1, w⟩ := w
          refine w_getp dX11_judged_49 lk_RX11_57 e1 rfl ?_
          obtain ⟨e2, w⟩ := w
          refine w_getp dX11_judged_52 lk_RX11_225 e2 rfl ?_
          obtain ⟨e3, w⟩ := w
          refine w_callV (As := []) (st := []) dX11_judged_55 mt_X0_raisedInAll g_1038 g_1039 g_1040 rfl e3 rfl rfl (Nat.le_of_ble_eq_true rfl) (Nat.le_refl _) ⟨Nat.le_refl _, Nat.le_refl _⟩ w ?_
          rintro v h6 ⟨r5, rfl, w⟩
          exact w_ireturn dX11_judged_58 rfl rfl ⟨Nat.le_refl _, Nat.le_refl _⟩ w
        · rw [if_pos c] at w
          refine w_aload_n dX11_judged_35 rfl ?_
          obtain ⟨e1, w⟩ := w
          refine w_getp dX11_judged_36 lk_RX11_57 e1 rfl ?_
          obtain ⟨e2, w⟩ := w
          refine w_getp dX11_judged_39 lk_RX11_225 e2 rfl ?_
          obtain ⟨e3, w⟩ := w
          refine w_callV (As := []) (st := []) dX11_judged_42 mt_X0_itemsOnFloor g_1034 g_1035 g_1036 rfl e3 rfl rfl (Nat.le_of_ble_eq_true rfl) (Nat.le_refl _) ⟨Nat.le_refl _, Nat.le_refl _⟩ w ?_
          rintro v h4 ⟨r3, rfl, w⟩
          refine w_goto (tgt := 58) dX11_judged_45 rfl ?_
          exact w_ireturn dX11_judged_58 rfl rfl ⟨Nat.le_refl _, Nat.le_refl _⟩ w
      · rw [if_pos c] at w
        refine w_iload_n dX11_judged_28 rfl ?_
        exact w_ireturn dX11_judged_29 rfl rfl ⟨Nat.le_refl _, Nat.le_refl _⟩ w
    · rw [if_neg c] at w
      refine w_bipush (v := (-2)) dX11_judged_9 rfl ?_
      exact w_ireturn dX11_judged_11 rfl rfl ⟨Nat.le_refl _, Nat.le_refl _⟩ w
set_option maxRecDepth 20000 in
set_option maxHeartbeats 4000000 in
theorem x_X11_first {G : pm_G} {d : Nat} {post : pm_PT} {h : pm_H} {l0 : Nat} {l1 : Int32} (w :
    (h.1[l0]? = some (0, 10)) ∧
    ci G d m_X11_shutHeap [.ref l0, .int l1] h fun r1 h2 =>
    if r1 = 0 then (
      post (some (.int (-1))) h2
    ) else (
      (h2.1[l0]? = some (0, 10)) ∧
      (h2.1[gp h2 l0 7]? = some (0, 8)) ∧
      cv G d m_X8_takeAll [.ref (gp h2 l0 7), .ref (gp h2 l0 6), .int l1] h2 fun h4 =>
      (h4.1[l0]? = some (0, 10)) ∧
      (h4.1[gp h4 l0 7]? = some (0, 8)) ∧
      (h4.1[gp h4 (gp h4 l0 7) 2]? = some (0, 6)) ∧
      ci G d m_X6_at [.ref (gp h4 (gp h4 l0 7) 2), .int 0] h4 fun r5 h6 =>
      post (some (.int r5)) h6
    )) :
    Wp G (m_X11_first, d + 1, 0, 0, post) (0, 0) 0 [.ref l0, .int l1] [] h := by
  refine w_aload_n dX11_first_0 rfl ?_
  refine w_iload_n dX11_first_1 rfl ?_
  obtain ⟨e1, w⟩ := w
  refine w_callV (As := [.int l1]) (st := []) dX11_first_2 mt_X11_shutHeap g_1046 g_1048 g_42 rfl e1 rfl rfl (Nat.le_of_ble_eq_true rfl) (Nat.le_refl _) ⟨Nat.le_refl _, Nat.le_refl _⟩ w ?_
  rintro v h2 ⟨r1, rfl, w⟩
  refine w_if_ne (tgt := 10) dX11_first_5 rfl (fun c => ?_) (fun c => ?_)
  · rw [if_neg c] at w
    refine w_aload_n dX11_first_10 rfl ?_
    obtain ⟨e1, w⟩ := w
    refine w_getp dX11_first_11 lk_RX11_57 e1 rfl ?_
    refine w_aload_n dX11_first_14 rfl ?_
    refine w_getp dX11_first_15 lk_RX11_50 e1 rfl ?_
    refine w_iload_n dX11_first_18 rfl ?_
    obtain ⟨e2, w⟩ := w
    refine w_callV (As := [.ref (gp h2 l0 6), .int l1]) (st := []) dX11_first_19 mt_X8_takeAll g_1050 g_1051 g_1052 rfl e2 rfl rfl (Nat.le_of_ble_eq_true rfl) (Nat.le_refl _) ⟨Nat.le_refl _, Nat.le_refl _⟩ w ?_
    rintro v h4 ⟨rfl, w⟩
    refine w_aload_n dX11_first_22 rfl ?_
    obtain ⟨e1, w⟩ := w
    refine w_getp dX11_first_23 lk_RX11_57 e1 rfl ?_
    obtain ⟨e2, w⟩ := w
    refine w_getp dX11_first_26 lk_RX11_242 e2 rfl ?_
    refine w_iconst (v := 0) dX11_first_29 rfl ?_
    obtain ⟨e3, w⟩ := w
    refine w_callV (As := [.int 0]) (st := []) dX11_first_30 mt_X6_at g_892 g_724 g_725 rfl e3 rfl rfl (Nat.le_of_ble_eq_true rfl) (Nat.le_refl _) ⟨Nat.le_refl _, Nat.le_refl _⟩ w ?_
    rintro v h6 ⟨r5, rfl, w⟩
    exact w_ireturn dX11_first_33 rfl rfl ⟨Nat.le_refl _, Nat.le_refl _⟩ w
  · rw [if_pos c] at w
    refine w_iconst (v := (-1)) dX11_first_8 rfl ?_
    exact w_ireturn dX11_first_9 rfl rfl ⟨Nat.le_refl _, Nat.le_refl _⟩ w
set_option maxRecDepth 20000 in
set_option maxHeartbeats 4000000 in
theorem x_X11_wrongs {G : pm_G} {d : Nat} {post : pm_PT} {h : pm_H} {l0 : Nat} {l1 : Int32} (w :
    (h.1[l0]? = some (0, 10)) ∧
    ci G d m_X11_shutHeap [.ref l0, .int l1] h fun r1 h2 =>
    if r1 = 0 then (
      post (some (.int (-1))) h2
    ) else (
      (h2.1[l0]? = some (0, 10)) ∧
      (h2.1[gp h2 l0 7]? = some (0, 8)) ∧
      cv G d m_X8_takeAll [.ref (gp h2 l0 7), .ref (gp h2 l0 6), .int l1] h2 fun h4 =>
      (h4.1[l0]? = some (0, 10)) ∧
      (h4.1[gp h4 l0 7]? = some (0, 8)) ∧
      ci G d m_X8_wrongPairs [.ref (gp h4 l0 7)] h4 fun r5 h6 =>
      post (some (.int r5)) h6
    )) :
    Wp G (m_X11_wrongs, d + 1, 0, 0, post) (0, 0) 0 [.ref l0, .int l1] [] h := by
  refine w_aload_n dX11_wrongs_0 rfl ?_
  refine w_iload_n dX11_wrongs_1 rfl ?_
  obtain ⟨e1, w⟩ := w
  refine w_callV (As := [.int l1]) (st := []) dX11_wrongs_2 mt_X11_shutHeap g_1046 g_1048 g_42 rfl e1 rfl rfl (Nat.le_of_ble_eq_true rfl) (Nat.le_refl _) ⟨Nat.le_refl _, Nat.le_refl _⟩ w ?_
  rintro v h2 ⟨r1, rfl, w⟩
  refine w_if_ne (tgt := 10) dX11_wrongs_5 rfl (fun c => ?_) (fun c => ?_)
  · rw [if_neg c] at w
    refine w_aload_n dX11_wrongs_10 rfl ?_
    obtain ⟨e1, w⟩ := w
    refine w_getp dX11_wrongs_11 lk_RX11_57 e1 rfl ?_
    refine w_aload_n dX11_wrongs_14 rfl ?_
    refine w_getp dX11_wrongs_15 lk_RX11_50 e1 rfl ?_
    refine w_iload_n dX11_wrongs_18 rfl ?_
    obtain ⟨e2, w⟩ := w
    refine w_callV (As := [.ref (gp h2 l0 6), .int l1]) (st := []) dX11_wrongs_19 mt_X8_takeAll g_1050 g_1051 g_1052 rfl e2 rfl rfl (Nat.le_of_ble_eq_true rfl) (Nat.le_refl _) ⟨Nat.le_refl _, Nat.le_refl _⟩ w ?_
    rintro v h4 ⟨rfl, w⟩
    refine w_aload_n dX11_wrongs_22 rfl ?_
    obtain ⟨e1, w⟩ := w
    refine w_getp dX11_wrongs_23 lk_RX11_57 e1 rfl ?_
    obtain ⟨e2, w⟩ := w
    refine w_callV (As := []) (st := []) dX11_wrongs_26 mt_X8_wrongPairs g_1061 g_1062 g_1063 rfl e2 rfl rfl (Nat.le_of_ble_eq_true rfl) (Nat.le_refl _) ⟨Nat.le_refl _, Nat.le_refl _⟩ w ?_
    rintro v h6 ⟨r5, rfl, w⟩
    exact w_ireturn dX11_wrongs_29 rfl rfl ⟨Nat.le_refl _, Nat.le_refl _⟩ w
  · rw [if_pos c] at w
    refine w_iconst (v := (-1)) dX11_wrongs_8 rfl ?_
    exact w_ireturn dX11_wrongs_9 rfl rfl ⟨Nat.le_refl _, Nat.le_refl _⟩ w
set_option maxRecDepth 20000 in
set_option maxHeartbeats 4000000 in
theorem x_X11_far {G : pm_G} {d : Nat} {post : pm_PT} {h : pm_H} {l0 : Nat} {l1 : Int32} (w :
    (h.1[l0]? = some (0, 10)) ∧
    ci G d m_X11_shutHeap [.ref l0, .int l1] h fun r1 h2 =>
    if r1 = 0 then (
      post (some (.int (-1))) h2
    ) else (
      (h2.1[l0]? = some (0, 10)) ∧
      (h2.1[gp h2 l0 7]? = some (0, 8)) ∧
      cv G d m_X8_takeAll [.ref (gp h2 l0 7), .ref (gp h2 l0 6), .int l1] h2 fun h4 =>
      (h4.1[l0]? = some (0, 10)) ∧
      (h4.1[gp h4 l0 7]? = some (0, 8)) ∧
      ci G d m_X8_farthest [.ref (gp h4 l0 7)] h4 fun r5 h6 =>
      post (some (.int r5)) h6
    )) :
    Wp G (m_X11_far, d + 1, 0, 0, post) (0, 0) 0 [.ref l0, .int l1] [] h := by
  refine w_aload_n dX11_far_0 rfl ?_
  refine w_iload_n dX11_far_1 rfl ?_
  obtain ⟨e1, w⟩ := w
  refine w_callV (As := [.int l1]) (st := []) dX11_far_2 mt_X11_shutHeap g_1046 g_1048 g_42 rfl e1 rfl rfl (Nat.le_of_ble_eq_true rfl) (Nat.le_refl _) ⟨Nat.le_refl _, Nat.le_refl _⟩ w ?_
  rintro v h2 ⟨r1, rfl, w⟩
  refine w_if_ne (tgt := 10) dX11_far_5 rfl (fun c => ?_) (fun c => ?_)
  · rw [if_neg c] at w
    refine w_aload_n dX11_far_10 rfl ?_
    obtain ⟨e1, w⟩ := w
    refine w_getp dX11_far_11 lk_RX11_57 e1 rfl ?_
    refine w_aload_n dX11_far_14 rfl ?_
    refine w_getp dX11_far_15 lk_RX11_50 e1 rfl ?_
    refine w_iload_n dX11_far_18 rfl ?_
    obtain ⟨e2, w⟩ := w
    refine w_callV (As := [.ref (gp h2 l0 6), .int l1]) (st := []) dX11_far_19 mt_X8_takeAll g_1050 g_1051 g_1052 rfl e2 rfl rfl (Nat.le_of_ble_eq_true rfl) (Nat.le_refl _) ⟨Nat.le_refl _, Nat.le_refl _⟩ w ?_
    rintro v h4 ⟨rfl, w⟩
    refine w_aload_n dX11_far_22 rfl ?_
    obtain ⟨e1, w⟩ := w
    refine w_getp dX11_far_23 lk_RX11_57 e1 rfl ?_
    obtain ⟨e2, w⟩ := w
    refine w_callV (As := []) (st := []) dX11_far_26 mt_X8_farthest g_1070 g_1071 g_1072 rfl e2 rfl rfl (Nat.le_of_ble_eq_true rfl) (Nat.le_refl _) ⟨Nat.le_refl _, Nat.le_refl _⟩ w ?_
    rintro v h6 ⟨r5, rfl, w⟩
    exact w_ireturn dX11_far_29 rfl rfl ⟨Nat.le_refl _, Nat.le_refl _⟩ w
  · rw [if_pos c] at w
    refine w_iconst (v := (-1)) dX11_far_8 rfl ?_
    exact w_ireturn dX11_far_9 rfl rfl ⟨Nat.le_refl _, Nat.le_refl _⟩ w
set_option maxRecDepth 20000 in
set_option maxHeartbeats 4000000 in
theorem x_X11_select {G : pm_G} {d : Nat} {post : pm_PT} {h : pm_H} {l0 : Nat} {l1 : Int32} {l2 : Int32} (w :
    (h.1[l0]? = some (0, 10)) ∧
    ci G d m_X11_isHeap [.ref l0, .int l1] h fun r1 h2 =>
    if r1 = 0 then (
      post (some (.int (-1))) h2
    ) else (
      (h2.1[l0]? = some (0, 10)) ∧
      (h2.1[gp h2 l0 6]? = some (0, 0)) ∧
      ci G d m_X0_selected [.ref (gp h2 l0 6), .int l1, .int l2] h2 fun r3 h4 =>
      post (some (.int r3)) h4
    )) :
    Wp G (m_X11_select, d + 1, 0, 0, post) (0, 0) 0 [.ref l0, .int l1, .int l2] [] h := by
  refine w_aload_n dX11_select_0 rfl ?_
  refine w_iload_n dX11_select_1 rfl ?_
  obtain ⟨e1, w⟩ := w
  refine w_callV (As := [.int l1]) (st := []) dX11_select_2 mt_X11_isHeap g_901 g_903 g_34 rfl e1 rfl rfl (Nat.le_of_ble_eq_true rfl) (Nat.le_refl _) ⟨Nat.le_refl _, Nat.le_refl _⟩ w ?_
  rintro v h2 ⟨r1, rfl, w⟩
  refine w_if_eq (tgt := 20) dX11_select_5 rfl (fun c => ?_) (fun c => ?_)
  · rw [if_pos c] at w
    refine w_iconst (v := (-1)) dX11_select_20 rfl ?_
    exact w_ireturn dX11_select_21 rfl rfl ⟨Nat.le_refl _, Nat.le_refl _⟩ w
  · rw [if_neg c] at w
    refine w_aload_n dX11_select_8 rfl ?_
    obtain ⟨e1, w⟩ := w
    refine w_getp dX11_select_9 lk_RX11_50 e1 rfl ?_
    refine w_iload_n dX11_select_12 rfl ?_
    refine w_iload_n dX11_select_13 rfl ?_
    obtain ⟨e2, w⟩ := w
    refine w_callV (As := [.int l1, .int l2]) (st := []) dX11_select_14 mt_X0_selected g_1090 g_1091 g_1092 rfl e2 rfl rfl (Nat.le_of_ble_eq_true rfl) (Nat.le_refl _) ⟨Nat.le_refl _, Nat.le_refl _⟩ w ?_
    rintro v h4 ⟨r3, rfl, w⟩
    refine w_goto (tgt := 21) dX11_select_17 rfl ?_
    exact w_ireturn dX11_select_21 rfl rfl ⟨Nat.le_refl _, Nat.le_refl _⟩ w
set_option maxRecDepth 20000 in
set_option maxHeartbeats 4000000 in
theorem x_X11_split {G : pm_G} {d : Nat} {post : pm_PT} {h : pm_H} {l0 : Nat} {l1 : Int32} {l2 : Int32} (w :
    (h.1[l0]? = some (0, 10)) ∧
    ci G d m_X11_shutHeap [.ref l0, .int l1] h fun r1 h2 =>
    if r1 = 0 then (
      post (some (.int (-1))) h2
    ) else (
      if l2 < 0 then (
        post (some (.int (-1))) h2
      ) else (
        if l2 ≤ 1 then (
          (h2.1[l0]? = some (0, 10)) ∧
          (h2.1[gp h2 l0 7]? = some (0, 8)) ∧
          ci G d m_X8_splitOf [.ref (gp h2 l0 7), .ref (gp h2 l0 6), .int l1] h2 fun r3 h4 =>
          if r3 = (-1) then (
            post (some (.int (-1))) h4
          ) else (
            if l2 = 0 then (
              post (some (.int r3)) h4
            ) else (
              (h4.1[l0]? = some (0, 10)) ∧
              (h4.1[gp h4 l0 6]? = some (0, 0)) ∧
              ci G d m_X0_aheadOf [.ref (gp h4 l0 6), .int l1, .int r3] h4 fun r5 h6 =>
              post (some (.int r5)) h6
            )
          )
        ) else (
          post (some (.int (-1))) h2
        )
      )
    )) :
    Wp G (m_X11_split, d + 1, 0, 0, post) (0, 0) 0 [.ref l0, .int l1, .int l2, .null] [] h := by
  refine w_aload_n dX11_split_0 rfl ?_
  refine w_iload_n dX11_split_1 rfl ?_
  obtain ⟨e1, w⟩ := w
  refine w_callV (As := [.int l1]) (st := []) dX11_split_2 mt_X11_shutHeap g_1046 g_1048 g_42 rfl e1 rfl rfl (Nat.le_of_ble_eq_true rfl) (Nat.le_refl _) ⟨Nat.le_refl _, Nat.le_refl _⟩ w ?_
  rintro v h2 ⟨r1, rfl, w⟩
  refine w_if_eq (tgt := 17) dX11_split_5 rfl (fun c => ?_) (fun c => ?_)
  · rw [if_pos c] at w
    refine w_iconst (v := (-1)) dX11_split_17 rfl ?_
    exact w_ireturn dX11_split_18 rfl rfl ⟨Nat.le_refl _, Nat.le_refl _⟩ w
  · rw [if_neg c] at w
    refine w_iload_n dX11_split_8 rfl ?_
    refine w_if_lt (tgt := 17) dX11_split_9 rfl (fun c => ?_) (fun c => ?_)
    · rw [if_pos c] at w
      refine w_iconst (v := (-1)) dX11_split_17 rfl ?_
      exact w_ireturn dX11_split_18 rfl rfl ⟨Nat.le_refl _, Nat.le_refl _⟩ w
    · rw [if_neg c] at w
      refine w_iload_n dX11_split_12 rfl ?_
      refine w_iconst (v := 1) dX11_split_13 rfl ?_
      refine w_ic_le (tgt := 19) dX11_split_14 rfl (fun c => ?_) (fun c => ?_)
      · rw [if_pos c] at w
        refine w_aload_n dX11_split_19 rfl ?_
        obtain ⟨e1, w⟩ := w
        refine w_getp dX11_split_20 lk_RX11_57 e1 rfl ?_
        refine w_aload_n dX11_split_23 rfl ?_
        refine w_getp dX11_split_24 lk_RX11_50 e1 rfl ?_
        refine w_iload_n dX11_split_27 rfl ?_
        obtain ⟨e2, w⟩ := w
        refine w_callV (As := [.ref (gp h2 l0 6), .int l1]) (st := []) dX11_split_28 mt_X8_splitOf g_1103 g_1104 g_1105 rfl e2 rfl rfl (Nat.le_of_ble_eq_true rfl) (Nat.le_refl _) ⟨Nat.le_refl _, Nat.le_refl _⟩ w ?_
        rintro v h4 ⟨r3, rfl, w⟩
        refine v_istore_n (l' := [.ref l0, .int l1, .int l2, .int r3]) dX11_split_31 (Nat.le_of_ble_eq_true rfl) rfl ?_
        refine w_iload_n dX11_split_32 rfl ?_
        refine w_iconst (v := (-1)) dX11_split_33 rfl ?_
        refine w_ic_ne (tgt := 39) dX11_split_34 rfl (fun c => ?_) (fun c => ?_)
        · rw [if_neg c] at w
          refine w_iload_n dX11_split_39 rfl ?_
          refine w_if_ne (tgt := 47) dX11_split_40 rfl (fun c => ?_) (fun c => ?_)
          · rw [if_neg c] at w
            refine w_aload_n dX11_split_47 rfl ?_
            obtain ⟨e1, w⟩ := w
            refine w_getp dX11_split_48 lk_RX11_50 e1 rfl ?_
            refine w_iload_n dX11_split_51 rfl ?_
            refine w_iload_n dX11_split_52 rfl ?_
            obtain ⟨e2, w⟩ := w
            refine w_callV (As := [.int l1, .int r3]) (st := []) dX11_split_53 mt_X0_aheadOf g_1112 g_1095 g_1096 rfl e2 rfl rfl (Nat.le_of_ble_eq_true rfl) (Nat.le_refl _) ⟨Nat.le_refl _, Nat.le_refl _⟩ w ?_
            rintro v h6 ⟨r5, rfl, w⟩
            exact w_ireturn dX11_split_56 rfl rfl ⟨Nat.le_refl _, Nat.le_refl _⟩ w
          · rw [if_pos c] at w
            refine w_iload_n dX11_split_43 rfl ?_
            refine w_goto (tgt := 56) dX11_split_44 rfl ?_
            exact w_ireturn dX11_split_56 rfl rfl ⟨Nat.le_refl _, Nat.le_refl _⟩ w
        · rw [if_pos c] at w
          refine w_iconst (v := (-1)) dX11_split_37 rfl ?_
          exact w_ireturn dX11_split_38 rfl rfl ⟨Nat.le_refl _, Nat.le_refl _⟩ w
      · rw [if_neg c] at w
        refine w_iconst (v := (-1)) dX11_split_17 rfl ?_
        exact w_ireturn dX11_split_18 rfl rfl ⟨Nat.le_refl _, Nat.le_refl _⟩ w
set_option maxRecDepth 20000 in
set_option maxHeartbeats 4000000 in
theorem x_X11_steps {G : pm_G} {d : Nat} {post : pm_PT} {h : pm_H} {l0 : Nat} {l1 : Int32} {l2 : Int32} (w :
    (h.1[l0]? = some (0, 10)) ∧
    ci G d m_X11_shutHeap [.ref l0, .int l1] h fun r1 h2 =>
    if r1 = 0 then (
      post (some (.int (-1))) h2
    ) else (
      (h2.1[l0]? = some (0, 10)) ∧
      (h2.1[gp h2 l0 7]? = some (0, 8)) ∧
      ci G d m_X8_stepsTo [.ref (gp h2 l0 7), .ref (gp h2 l0 6), .int l1, .int l2] h2 fun r3 h4 =>
      post (some (.int r3)) h4
    )) :
    Wp G (m_X11_steps, d + 1, 0, 0, post) (0, 0) 0 [.ref l0, .int l1, .int l2] [] h := by
  refine w_aload_n dX11_steps_0 rfl ?_
  refine w_iload_n dX11_steps_1 rfl ?_
  obtain ⟨e1, w⟩ := w
  refine w_callV (As := [.int l1]) (st := []) dX11_steps_2 mt_X11_shutHeap g_1046 g_1048 g_42 rfl e1 rfl rfl (Nat.le_of_ble_eq_true rfl) (Nat.le_refl _) ⟨Nat.le_refl _, Nat.le_refl _⟩ w ?_
  rintro v h2 ⟨r1, rfl, w⟩
  refine w_if_eq (tgt := 24) dX11_steps_5 rfl (fun c => ?_) (fun c => ?_)
  · rw [if_pos c] at w
    refine w_iconst (v := (-1)) dX11_steps_24 rfl ?_
    exact w_ireturn dX11_steps_25 rfl rfl ⟨Nat.le_refl _, Nat.le_refl _⟩ w
  · rw [if_neg c] at w
    refine w_aload_n dX11_steps_8 rfl ?_
    obtain ⟨e1, w⟩ := w
    refine w_getp dX11_steps_9 lk_RX11_57 e1 rfl ?_
    refine w_aload_n dX11_steps_12 rfl ?_
    refine w_getp dX11_steps_13 lk_RX11_50 e1 rfl ?_
    refine w_iload_n dX11_steps_16 rfl ?_
    refine w_iload_n dX11_steps_17 rfl ?_
    obtain ⟨e2, w⟩ := w
    refine w_callV (As := [.ref (gp h2 l0 6), .int l1, .int l2]) (st := []) dX11_steps_18 mt_X8_stepsTo g_1117 g_1118 g_1119 rfl e2 rfl rfl (Nat.le_of_ble_eq_true rfl) (Nat.le_refl _) ⟨Nat.le_refl _, Nat.le_refl _⟩ w ?_
    rintro v h4 ⟨r3, rfl, w⟩
    refine w_goto (tgt := 25) dX11_steps_21 rfl ?_
    exact w_ireturn dX11_steps_25 rfl rfl ⟨Nat.le_refl _, Nat.le_refl _⟩ w
set_option maxRecDepth 20000 in
set_option maxHeartbeats 4000000 in
theorem x_X11_worth {G : pm_G} {d : Nat} {post : pm_PT} {h : pm_H} {l0 : Nat} {l1 : Int32} (w :
    (h.1[l0]? = some (0, 10)) ∧
    ci G d m_X11_shutHeap [.ref l0, .int l1] h fun r1 h2 =>
    if r1 = 0 then (
      post (some (.int (-1))) h2
    ) else (
      (h2.1[l0]? = some (0, 10)) ∧
      (h2.1[gp h2 l0 7]? = some (0, 8)) ∧
      cv G d m_X8_takeAll [.ref (gp h2 l0 7), .ref (gp h2 l0 6), .int l1] h2 fun h4 =>
      (h4.1[l0]? = some (0, 10)) ∧
      (h4.1[gp h4 l0 7]? = some (0, 8)) ∧
      cf G d m_X8_sum [.ref (gp h4 l0 7)] h4 fun r5 h6 =>
      ci G d m_X11_bitsOf [.float r5] h6 fun r7 h8 =>
      post (some (.int r7)) h8
    )) :
    Wp G (m_X11_worth, d + 1, 0, 0, post) (0, 0) 0 [.ref l0, .int l1] [] h := by
  refine w_aload_n dX11_worth_0 rfl ?_
  refine w_iload_n dX11_worth_1 rfl ?_
  obtain ⟨e1, w⟩ := w
  refine w_callV (As := [.int l1]) (st := []) dX11_worth_2 mt_X11_shutHeap g_1046 g_1048 g_42 rfl e1 rfl rfl (Nat.le_of_ble_eq_true rfl) (Nat.le_refl _) ⟨Nat.le_refl _, Nat.le_refl _⟩ w ?_
  rintro v h2 ⟨r1, rfl, w⟩
  refine w_if_ne (tgt := 10) dX11_worth_5 rfl (fun c => ?_) (fun c => ?_)
  · rw [if_neg c] at w
    refine w_aload_n dX11_worth_10 rfl ?_
    obtain ⟨e1, w⟩ := w
    refine w_getp dX11_worth_11 lk_RX11_57 e1 rfl ?_
    refine w_aload_n dX11_worth_14 rfl ?_
    refine w_getp dX11_worth_15 lk_RX11_50 e1 rfl ?_
    refine w_iload_n dX11_worth_18 rfl ?_
    obtain ⟨e2, w⟩ := w
    refine w_callV (As := [.ref (gp h2 l0 6), .int l1]) (st := []) dX11_worth_19 mt_X8_takeAll g_1050 g_1051 g_1052 rfl e2 rfl rfl (Nat.le_of_ble_eq_true rfl) (Nat.le_refl _) ⟨Nat.le_refl _, Nat.le_refl _⟩ w ?_
    rintro v h4 ⟨rfl, w⟩
    refine w_aload_n dX11_worth_22 rfl ?_
    obtain ⟨e1, w⟩ := w
    refine w_getp dX11_worth_23 lk_RX11_57 e1 rfl ?_
    obtain ⟨e2, w⟩ := w
    refine w_callV (As := []) (st := []) dX11_worth_26 mt_X8_sum g_1135 g_1136 g_1137 rfl e2 rfl rfl (Nat.le_of_ble_eq_true rfl) (Nat.le_refl _) ⟨Nat.le_refl _, Nat.le_refl _⟩ w ?_
    rintro v h6 ⟨r5, rfl, w⟩
    refine w_callS (As := [.float r5]) (st := []) dX11_worth_29 mt_X11_bitsOf g_928 g_929 rfl rfl (Nat.le_of_ble_eq_true rfl) (Nat.le_refl _) ⟨Nat.le_refl _, Nat.le_refl _⟩ w ?_
    rintro v h8 ⟨r7, rfl, w⟩
    exact w_ireturn dX11_worth_32 rfl rfl ⟨Nat.le_refl _, Nat.le_refl _⟩ w
  · rw [if_pos c] at w
    refine w_iconst (v := (-1)) dX11_worth_8 rfl ?_
    exact w_ireturn dX11_worth_9 rfl rfl ⟨Nat.le_refl _, Nat.le_refl _⟩ w
set_option maxRecDepth 20000 in
set_option maxHeartbeats 4000000 in
theorem x_X11_mean {G : pm_G} {d : Nat} {post : pm_PT} {h : pm_H} {l0 : Nat} {l1 : Int32} (w :
    (h.1[l0]? = some (0, 10)) ∧
    ci G d m_X11_shutHeap [.ref l0, .int l1] h fun r1 h2 =>
    if r1 = 0 then (
      post (some (.int (-1))) h2
    ) else (
      (h2.1[l0]? = some (0, 10)) ∧
      (h2.1[gp h2 l0 7]? = some (0, 8)) ∧
      cv G d m_X8_takeAll [.ref (gp h2 l0 7), .ref (gp h2 l0 6), .int l1] h2 fun h4 =>
      (h4.1[l0]? = some (0, 10)) ∧
      (h4.1[gp h4 l0 7]? = some (0, 8)) ∧
      if (gi h4 (gp h4 l0 7) 3) = 0 then (
        post (some (.int 0)) h4
      ) else (
        cf G d m_X8_sum [.ref (gp h4 l0 7)] h4 fun r5 h6 =>
        (h6.1[l0]? = some (0, 10)) ∧
        (h6.1[gp h6 l0 7]? = some (0, 8)) ∧
        (vf_n32 (FP.fdiv r5 (FP.i2f (gi h6 (gp h6 l0 7) 3)))) ∧
        ci G d m_X11_bitsOf [.float (FP.fdiv r5 (FP.i2f (gi h6 (gp h6 l0 7) 3)))] h6 fun r7 h8 =>
        post (some (.int r7)) h8
      )
    )) :
    Wp G (m_X11_mean, d + 1, 0, 0, post) (0, 0) 0 [.ref l0, .int l1] [] h := by
  refine w_aload_n dX11_mean_0 rfl ?_
  refine w_iload_n dX11_mean_1 rfl ?_
  obtain ⟨e1, w⟩ := w
  refine w_callV (As := [.int l1]) (st := []) dX11_mean_2 mt_X11_shutHeap g_1046 g_1048 g_42 rfl e1 rfl rfl (Nat.le_of_ble_eq_true rfl) (Nat.le_refl _) ⟨Nat.le_refl _, Nat.le_refl _⟩ w ?_
  rintro v h2 ⟨r1, rfl, w⟩
  refine w_if_ne (tgt := 10) dX11_mean_5 rfl (fun c => ?_) (fun c => ?_)
  · rw [if_neg c] at w
    refine w_aload_n dX11_mean_10 rfl ?_
    obtain ⟨e1, w⟩ := w
    refine w_getp dX11_mean_11 lk_RX11_57 e1 rfl ?_
    refine w_aload_n dX11_mean_14 rfl ?_
    refine w_getp dX11_mean_15 lk_RX11_50 e1 rfl ?_
    refine w_iload_n dX11_mean_18 rfl ?_
    obtain ⟨e2, w⟩ := w
    refine w_callV (As := [.ref (gp h2 l0 6), .int l1]) (st := []) dX11_mean_19 mt_X8_takeAll g_1050 g_1051 g_1052 rfl e2 rfl rfl (Nat.le_of_ble_eq_true rfl) (Nat.le_refl _) ⟨Nat.le_refl _, Nat.le_refl _⟩ w ?_
    rintro v h4 ⟨rfl, w⟩
    refine w_aload_n dX11_mean_22 rfl ?_
    obtain ⟨e1, w⟩ := w
    refine w_getp dX11_mean_23 lk_RX11_57 e1 rfl ?_
    obtain ⟨e2, w⟩ := w
    refine w_geti dX11_mean_26 lk_RX11_245 e2 rfl ?_
    refine w_if_ne (tgt := 36) dX11_mean_29 rfl (fun c => ?_) (fun c => ?_)
    · rw [if_neg c] at w
      refine w_aload_n dX11_mean_36 rfl ?_
      refine w_getp dX11_mean_37 lk_RX11_57 e1 rfl ?_
      refine w_callV (As := []) (st := []) dX11_mean_40 mt_X8_sum g_1135 g_1136 g_1137 rfl e2 rfl rfl (Nat.le_of_ble_eq_true rfl) (Nat.le_refl _) ⟨Nat.le_refl _, Nat.le_refl _⟩ w ?_
      rintro v h6 ⟨r5, rfl, w⟩
      refine w_aload_n dX11_mean_43 rfl ?_
      obtain ⟨e1, w⟩ := w
      refine w_getp dX11_mean_44 lk_RX11_57 e1 rfl ?_
      obtain ⟨e2, w⟩ := w
      refine w_geti dX11_mean_47 lk_RX11_245 e2 rfl ?_
      refine w_i2f dX11_mean_50 ?_
      obtain ⟨e3, w⟩ := w
      refine w_fdiv dX11_mean_51 e3 ?_
      refine w_callS (As := [.float (FP.fdiv r5 (FP.i2f (gi h6 (gp h6 l0 7) 3)))]) (st := []) dX11_mean_52 mt_X11_bitsOf g_928 g_929 rfl rfl (Nat.le_of_ble_eq_true rfl) (Nat.le_refl _) ⟨Nat.le_refl _, Nat.le_refl _⟩ w ?_
      rintro v h8 ⟨r7, rfl, w⟩
      exact w_ireturn dX11_mean_55 rfl rfl ⟨Nat.le_refl _, Nat.le_refl _⟩ w
    · rw [if_pos c] at w
      refine w_iconst (v := 0) dX11_mean_32 rfl ?_
      refine w_goto (tgt := 55) dX11_mean_33 rfl ?_
      exact w_ireturn dX11_mean_55 rfl rfl ⟨Nat.le_refl _, Nat.le_refl _⟩ w
  · rw [if_pos c] at w
    refine w_iconst (v := (-1)) dX11_mean_8 rfl ?_
    exact w_ireturn dX11_mean_9 rfl rfl ⟨Nat.le_refl _, Nat.le_refl _⟩ w
set_option maxRecDepth 20000 in
set_option maxHeartbeats 4000000 in
theorem x_X11_bits {G : pm_G} {d : Nat} {post : pm_PT} {h : pm_H} {l0 : Nat} {l1 : Int32} (w :
    (h.1[l0]? = some (0, 10)) ∧
    ci G d m_X11_isItem [.ref l0, .int l1] h fun r1 h2 =>
    if r1 = 0 then (
      post (some (.int (-1))) h2
    ) else (
      (h2.1[l0]? = some (0, 10)) ∧
      (h2.1[gp h2 l0 1]? = some (0, 4)) ∧
      cf G d m_X4_keyOf [.ref (gp h2 l0 1), .int l1] h2 fun r3 h4 =>
      ci G d m_X11_bitsOf [.float r3] h4 fun r5 h6 =>
      post (some (.int r5)) h6
    )) :
    Wp G (m_X11_bits, d + 1, 0, 0, post) (0, 0) 0 [.ref l0, .int l1] [] h := by
  refine w_aload_n dX11_bits_0 rfl ?_
  refine w_iload_n dX11_bits_1 rfl ?_
  obtain ⟨e1, w⟩ := w
  refine w_callV (As := [.int l1]) (st := []) dX11_bits_2 mt_X11_isItem g_888 g_890 g_33 rfl e1 rfl rfl (Nat.le_of_ble_eq_true rfl) (Nat.le_refl _) ⟨Nat.le_refl _, Nat.le_refl _⟩ w ?_
  rintro v h2 ⟨r1, rfl, w⟩
  refine w_if_eq (tgt := 22) dX11_bits_5 rfl (fun c => ?_) (fun c => ?_)
  · rw [if_pos c] at w
    refine w_iconst (v := (-1)) dX11_bits_22 rfl ?_
    exact w_ireturn dX11_bits_23 rfl rfl ⟨Nat.le_refl _, Nat.le_refl _⟩ w
  · rw [if_neg c] at w
    refine w_aload_n dX11_bits_8 rfl ?_
    obtain ⟨e1, w⟩ := w
    refine w_getp dX11_bits_9 lk_RX11_19 e1 rfl ?_
    refine w_iload_n dX11_bits_12 rfl ?_
    obtain ⟨e2, w⟩ := w
    refine w_callV (As := [.int l1]) (st := []) dX11_bits_13 mt_X4_keyOf g_927 g_780 g_781 rfl e2 rfl rfl (Nat.le_of_ble_eq_true rfl) (Nat.le_refl _) ⟨Nat.le_refl _, Nat.le_refl _⟩ w ?_
    rintro v h4 ⟨r3, rfl, w⟩
    refine w_callS (As := [.float r3]) (st := []) dX11_bits_16 mt_X11_bitsOf g_928 g_929 rfl rfl (Nat.le_of_ble_eq_true rfl) (Nat.le_refl _) ⟨Nat.le_refl _, Nat.le_refl _⟩ w ?_
    rintro v h6 ⟨r5, rfl, w⟩
    refine w_goto (tgt := 23) dX11_bits_19 rfl ?_
    exact w_ireturn dX11_bits_23 rfl rfl ⟨Nat.le_refl _, Nat.le_refl _⟩ w
set_option maxRecDepth 20000 in
set_option maxHeartbeats 4000000 in
theorem x_X11_thousand {G : pm_G} {d : Nat} {post : pm_PT} {h : pm_H} {l0 : Nat} {l1 : Int32} (w :
    (h.1[l0]? = some (0, 10)) ∧
    ci G d m_X11_isItem [.ref l0, .int l1] h fun r1 h2 =>
    if r1 = 0 then (
      post (some (.int (-1))) h2
    ) else (
      (h2.1[l0]? = some (0, 10)) ∧
      (h2.1[gp h2 l0 1]? = some (0, 4)) ∧
      cf G d m_X4_keyOf [.ref (gp h2 l0 1), .int l1] h2 fun r3 h4 =>
      (vf_n32 (FP.fmul r3 1148846080)) ∧
      post (some (.int (FP.f2i (FP.fmul r3 1148846080)))) h4
    )) :
    Wp G (m_X11_thousand, d + 1, 0, 0, post) (0, 0) 0 [.ref l0, .int l1] [] h := by
  refine w_aload_n dX11_thousand_0 rfl ?_
  refine w_iload_n dX11_thousand_1 rfl ?_
  obtain ⟨e1, w⟩ := w
  refine w_callV (As := [.int l1]) (st := []) dX11_thousand_2 mt_X11_isItem g_888 g_890 g_33 rfl e1 rfl rfl (Nat.le_of_ble_eq_true rfl) (Nat.le_refl _) ⟨Nat.le_refl _, Nat.le_refl _⟩ w ?_
  rintro v h2 ⟨r1, rfl, w⟩
  refine w_if_eq (tgt := 24) dX11_thousand_5 rfl (fun c => ?_) (fun c => ?_)
  · rw [if_pos c] at w
    refine w_iconst (v := (-1)) dX11_thousand_24 rfl ?_
    exact w_ireturn dX11_thousand_25 rfl rfl ⟨Nat.le_refl _, Nat.le_refl _⟩ w
  · rw [if_neg c] at w
    refine w_aload_n dX11_thousand_8 rfl ?_
    obtain ⟨e1, w⟩ := w
    refine w_getp dX11_thousand_9 lk_RX11_19 e1 rfl ?_
    refine w_iload_n dX11_thousand_12 rfl ?_
    obtain ⟨e2, w⟩ := w
    refine w_callV (As := [.int l1]) (st := []) dX11_thousand_13 mt_X4_keyOf g_927 g_780 g_781 rfl e2 rfl rfl (Nat.le_of_ble_eq_true rfl) (Nat.le_refl _) ⟨Nat.le_refl _, Nat.le_refl _⟩ w ?_
    rintro v h4 ⟨r3, rfl, w⟩
    refine w_ldcw_f (v := 1148846080) dX11_thousand_16 g_1151 ?_
    obtain ⟨e1, w⟩ := w
    refine w_fmul dX11_thousand_19 e1 ?_
    refine w_f2i dX11_thousand_20 ?_
    refine w_goto (tgt := 25) dX11_thousand_21 rfl ?_
    exact w_ireturn dX11_thousand_25 rfl rfl ⟨Nat.le_refl _, Nat.le_refl _⟩ w
set_option maxRecDepth 20000 in
set_option maxHeartbeats 4000000 in
theorem x_X11_lift {G : pm_G} {d : Nat} {post : pm_PT} {h : pm_H} {l0 : Nat} {l1 : Int32} (w :
    (h.1[l0]? = some (0, 10)) ∧
    ci G d m_X11_isItem [.ref l0, .int l1] h fun r1 h2 =>
    if r1 = 0 then (
      post (some (.int (-1))) h2
    ) else (
      (h2.1[l0]? = some (0, 10)) ∧
      (h2.1[gp h2 l0 6]? = some (0, 0)) ∧
      (h2.1[gp h2 (gp h2 l0 6) 12]? = some (0, 6)) ∧
      ci G d m_X6_at [.ref (gp h2 (gp h2 l0 6) 12), .int l1] h2 fun r3 h4 =>
      if r3 = (-1) then (
        post (some (.int (-1))) h4
      ) else (
        (h4.1[l0]? = some (0, 10)) ∧
        (h4.1[gp h4 l0 6]? = some (0, 0)) ∧
        (h4.1[gp h4 (gp h4 l0 6) 3]? = some (0, 6)) ∧
        ci G d m_X6_at [.ref (gp h4 (gp h4 l0 6) 3), .int r3] h4 fun r5 h6 =>
        (h6.1[gp h4 l0 1]? = some (0, 4)) ∧
        cf G d m_X4_keyOf [.ref (gp h4 l0 1), .int r5] h6 fun r7 h8 =>
        (h8.1[l0]? = some (0, 10)) ∧
        (h8.1[gp h8 l0 1]? = some (0, 4)) ∧
        cf G d m_X4_keyOf [.ref (gp h8 l0 1), .int l1] h8 fun r9 h10 =>
        (vf_n32 (FP.fsub r7 r9)) ∧
        ci G d m_X11_bitsOf [.float (FP.fsub r7 r9)] h10 fun r11 h12 =>
        post (some (.int r11)) h12
      )
    )) :
    Wp G (m_X11_lift, d + 1, 0, 0, post) (0, 0) 0 [.ref l0, .int l1, .null] [] h := by
  refine w_aload_n dX11_lift_0 rfl ?_
  refine w_iload_n dX11_lift_1 rfl ?_
  obtain ⟨e1, w⟩ := w
  refine w_callV (As := [.int l1]) (st := []) dX11_lift_2 mt_X11_isItem g_888 g_890 g_33 rfl e1 rfl rfl (Nat.le_of_ble_eq_true rfl) (Nat.le_refl _) ⟨Nat.le_refl _, Nat.le_refl _⟩ w ?_
  rintro v h2 ⟨r1, rfl, w⟩
  refine w_if_eq (tgt := 22) dX11_lift_5 rfl (fun c => ?_) (fun c => ?_)
  · rw [if_pos c] at w
    refine w_iconst (v := (-1)) dX11_lift_22 rfl ?_
    refine v_istore_n (l' := [.ref l0, .int l1, .int (-1)]) dX11_lift_23 (Nat.le_of_ble_eq_true rfl) rfl ?_
    refine w_iload_n dX11_lift_24 rfl ?_
    refine w_iconst (v := (-1)) dX11_lift_25 rfl ?_
    refine w_ic_ne (tgt := 33) dX11_lift_26 rfl (fun c => ?_) (fun c => ?_)
    · exact absurd c (by decide)
    · refine w_iconst (v := (-1)) dX11_lift_29 rfl ?_
      refine w_goto (tgt := 63) dX11_lift_30 rfl ?_
      exact w_ireturn dX11_lift_63 rfl rfl ⟨Nat.le_refl _, Nat.le_refl _⟩ w
  · rw [if_neg c] at w
    refine w_aload_n dX11_lift_8 rfl ?_
    obtain ⟨e1, w⟩ := w
    refine w_getp dX11_lift_9 lk_RX11_50 e1 rfl ?_
    obtain ⟨e2, w⟩ := w
    refine w_getp dX11_lift_12 lk_RX11_283 e2 rfl ?_
    refine w_iload_n dX11_lift_15 rfl ?_
    obtain ⟨e3, w⟩ := w
    refine w_callV (As := [.int l1]) (st := []) dX11_lift_16 mt_X6_at g_892 g_724 g_725 rfl e3 rfl rfl (Nat.le_of_ble_eq_true rfl) (Nat.le_refl _) ⟨Nat.le_refl _, Nat.le_refl _⟩ w ?_
    rintro v h4 ⟨r3, rfl, w⟩
    refine w_goto (tgt := 23) dX11_lift_19 rfl ?_
    refine v_istore_n (l' := [.ref l0, .int l1, .int r3]) dX11_lift_23 (Nat.le_of_ble_eq_true rfl) rfl ?_
    refine w_iload_n dX11_lift_24 rfl ?_
    refine w_iconst (v := (-1)) dX11_lift_25 rfl ?_
    refine w_ic_ne (tgt := 33) dX11_lift_26 rfl (fun c => ?_) (fun c => ?_)
    · rw [if_neg c] at w
      refine w_aload_n dX11_lift_33 rfl ?_
      obtain ⟨e1, w⟩ := w
      refine w_getp dX11_lift_34 lk_RX11_19 e1 rfl ?_
      refine w_aload_n dX11_lift_37 rfl ?_
      refine w_getp dX11_lift_38 lk_RX11_50 e1 rfl ?_
      obtain ⟨e2, w⟩ := w
      refine w_getp dX11_lift_41 lk_RX11_175 e2 rfl ?_
      refine w_iload_n dX11_lift_44 rfl ?_
      obtain ⟨e3, w⟩ := w
      refine w_callV (As := [.int r3]) (st := [.ref (gp h4 l0 1)]) dX11_lift_45 mt_X6_at g_892 g_724 g_725 rfl e3 rfl rfl (Nat.le_of_ble_eq_true rfl) (Nat.le_refl _) ⟨Nat.le_refl _, Nat.le_refl _⟩ w ?_
      rintro v h6 ⟨r5, rfl, w⟩
      obtain ⟨e1, w⟩ := w
      refine w_callV (As := [.int r5]) (st := []) dX11_lift_48 mt_X4_keyOf g_927 g_780 g_781 rfl e1 rfl rfl (Nat.le_of_ble_eq_true rfl) (Nat.le_refl _) ⟨Nat.le_refl _, Nat.le_refl _⟩ w ?_
      rintro v h8 ⟨r7, rfl, w⟩
      refine w_aload_n dX11_lift_51 rfl ?_
      obtain ⟨e1, w⟩ := w
      refine w_getp dX11_lift_52 lk_RX11_19 e1 rfl ?_
      refine w_iload_n dX11_lift_55 rfl ?_
      obtain ⟨e2, w⟩ := w
      refine w_callV (As := [.int l1]) (st := [.float r7]) dX11_lift_56 mt_X4_keyOf g_927 g_780 g_781 rfl e2 rfl rfl (Nat.le_of_ble_eq_true rfl) (Nat.le_refl _) ⟨Nat.le_refl _, Nat.le_refl _⟩ w ?_
      rintro v h10 ⟨r9, rfl, w⟩
      obtain ⟨e1, w⟩ := w
      refine w_fsub dX11_lift_59 e1 ?_
      refine w_callS (As := [.float (FP.fsub r7 r9)]) (st := []) dX11_lift_60 mt_X11_bitsOf g_928 g_929 rfl rfl (Nat.le_of_ble_eq_true rfl) (Nat.le_refl _) ⟨Nat.le_refl _, Nat.le_refl _⟩ w ?_
      rintro v h12 ⟨r11, rfl, w⟩
      exact w_ireturn dX11_lift_63 rfl rfl ⟨Nat.le_refl _, Nat.le_refl _⟩ w
    · rw [if_pos c] at w
      refine w_iconst (v := (-1)) dX11_lift_29 rfl ?_
      refine w_goto (tgt := 63) dX11_lift_30 rfl ?_
      exact w_ireturn dX11_lift_63 rfl rfl ⟨Nat.le_refl _, Nat.le_refl _⟩ w
set_option maxRecDepth 20000 in
set_option maxHeartbeats 4000000 in
theorem x_X11_bound {G : pm_G} {d : Nat} {post : pm_PT} {h : pm_H} {l0 : Nat} {l1 : Int32} (w :
    (h.1[l0]? = some (0, 10)) ∧
    ci G d m_X11_isHeap [.ref l0, .int l1] h fun r1 h2 =>
    if r1 = 0 then (
      post (some (.int 0)) h2
    ) else (
      (h2.1[l0]? = some (0, 10)) ∧
      (h2.1[gp h2 l0 6]? = some (0, 0)) ∧
      ci G d m_X0_raisedIn [.ref (gp h2 l0 6), .int l1] h2 fun r3 h4 =>
      (h4.1[l0]? = some (0, 10)) ∧
      (h4.1[gp h4 l0 6]? = some (0, 0)) ∧
      ci G d m_X0_itemsIn [.ref (gp h4 l0 6), .int l1] h4 fun r5 h6 =>
      (h6.1[l0]? = some (0, 10)) ∧
      (h6.1[gp h6 l0 1]? = some (0, 4)) ∧
      if (r5 >>> ((gi h6 (gp h6 l0 1) 8) &&& 31)) < r3 then (
        post (some (.int 0)) h6
      ) else (
        post (some (.int 1)) h6
      )
    )) :
    Wp G (m_X11_bound, d + 1, 0, 0, post) (0, 0) 0 [.ref l0, .int l1] [] h := by
  refine w_aload_n dX11_bound_0 rfl ?_
  refine w_iload_n dX11_bound_1 rfl ?_
  obtain ⟨e1, w⟩ := w
  refine w_callV (As := [.int l1]) (st := []) dX11_bound_2 mt_X11_isHeap g_901 g_903 g_34 rfl e1 rfl rfl (Nat.le_of_ble_eq_true rfl) (Nat.le_refl _) ⟨Nat.le_refl _, Nat.le_refl _⟩ w ?_
  rintro v h2 ⟨r1, rfl, w⟩
  refine w_if_eq (tgt := 39) dX11_bound_5 rfl (fun c => ?_) (fun c => ?_)
  · rw [if_pos c] at w
    refine w_iconst (v := 0) dX11_bound_39 rfl ?_
    exact w_ireturn dX11_bound_40 rfl rfl ⟨Nat.le_refl _, Nat.le_refl _⟩ w
  · rw [if_neg c] at w
    refine w_aload_n dX11_bound_8 rfl ?_
    obtain ⟨e1, w⟩ := w
    refine w_getp dX11_bound_9 lk_RX11_50 e1 rfl ?_
    refine w_iload_n dX11_bound_12 rfl ?_
    obtain ⟨e2, w⟩ := w
    refine w_callV (As := [.int l1]) (st := []) dX11_bound_13 mt_X0_raisedIn g_910 g_911 g_912 rfl e2 rfl rfl (Nat.le_of_ble_eq_true rfl) (Nat.le_refl _) ⟨Nat.le_refl _, Nat.le_refl _⟩ w ?_
    rintro v h4 ⟨r3, rfl, w⟩
    refine w_aload_n dX11_bound_16 rfl ?_
    obtain ⟨e1, w⟩ := w
    refine w_getp dX11_bound_17 lk_RX11_50 e1 rfl ?_
    refine w_iload_n dX11_bound_20 rfl ?_
    obtain ⟨e2, w⟩ := w
    refine w_callV (As := [.int l1]) (st := [.int r3]) dX11_bound_21 mt_X0_itemsIn g_905 g_812 g_813 rfl e2 rfl rfl (Nat.le_of_ble_eq_true rfl) (Nat.le_refl _) ⟨Nat.le_refl _, Nat.le_refl _⟩ w ?_
    rintro v h6 ⟨r5, rfl, w⟩
    refine w_aload_n dX11_bound_24 rfl ?_
    obtain ⟨e1, w⟩ := w
    refine w_getp dX11_bound_25 lk_RX11_19 e1 rfl ?_
    obtain ⟨e2, w⟩ := w
    refine w_geti dX11_bound_28 lk_RX11_286 e2 rfl ?_
    refine w_ishr dX11_bound_31 ?_
    refine w_ic_gt (tgt := 39) dX11_bound_32 rfl (fun c => ?_) (fun c => ?_)
    · rw [if_pos c] at w
      refine w_iconst (v := 0) dX11_bound_39 rfl ?_
      exact w_ireturn dX11_bound_40 rfl rfl ⟨Nat.le_refl _, Nat.le_refl _⟩ w
    · rw [if_neg c] at w
      refine w_iconst (v := 1) dX11_bound_35 rfl ?_
      refine w_goto (tgt := 40) dX11_bound_36 rfl ?_
      exact w_ireturn dX11_bound_40 rfl rfl ⟨Nat.le_refl _, Nat.le_refl _⟩ w
set_option maxRecDepth 20000 in
set_option maxHeartbeats 4000000 in
theorem x_X11_depth {G : pm_G} {d : Nat} {post : pm_PT} {h : pm_H} {l0 : Nat} {l1 : Int32} (w :
    (h.1[l0]? = some (0, 10)) ∧
    ci G d m_X11_isItem [.ref l0, .int l1] h fun r1 h2 =>
    if r1 = 0 then (
      post (some (.int (-1))) h2
    ) else (
      (h2.1[l0]? = some (0, 10)) ∧
      (h2.1[gp h2 l0 6]? = some (0, 0)) ∧
      (h2.1[gp h2 (gp h2 l0 6) 12]? = some (0, 6)) ∧
      ci G d m_X6_at [.ref (gp h2 (gp h2 l0 6) 12), .int l1] h2 fun r3 h4 =>
      if r3 = (-1) then (
        post (some (.int (-1))) h4
      ) else (
        (h4.1[l0]? = some (0, 10)) ∧
        (h4.1[gp h4 l0 6]? = some (0, 0)) ∧
        ci G d m_X0_depthOf [.ref (gp h4 l0 6), .int r3] h4 fun r5 h6 =>
        post (some (.int r5)) h6
      )
    )) :
    Wp G (m_X11_depth, d + 1, 0, 0, post) (0, 0) 0 [.ref l0, .int l1, .null] [] h := by
  refine w_aload_n dX11_depth_0 rfl ?_
  refine w_iload_n dX11_depth_1 rfl ?_
  obtain ⟨e1, w⟩ := w
  refine w_callV (As := [.int l1]) (st := []) dX11_depth_2 mt_X11_isItem g_888 g_890 g_33 rfl e1 rfl rfl (Nat.le_of_ble_eq_true rfl) (Nat.le_refl _) ⟨Nat.le_refl _, Nat.le_refl _⟩ w ?_
  rintro v h2 ⟨r1, rfl, w⟩
  refine w_if_eq (tgt := 22) dX11_depth_5 rfl (fun c => ?_) (fun c => ?_)
  · rw [if_pos c] at w
    refine w_iconst (v := (-1)) dX11_depth_22 rfl ?_
    refine v_istore_n (l' := [.ref l0, .int l1, .int (-1)]) dX11_depth_23 (Nat.le_of_ble_eq_true rfl) rfl ?_
    refine w_iload_n dX11_depth_24 rfl ?_
    refine w_iconst (v := (-1)) dX11_depth_25 rfl ?_
    refine w_ic_ne (tgt := 33) dX11_depth_26 rfl (fun c => ?_) (fun c => ?_)
    · exact absurd c (by decide)
    · refine w_iconst (v := (-1)) dX11_depth_29 rfl ?_
      refine w_goto (tgt := 41) dX11_depth_30 rfl ?_
      exact w_ireturn dX11_depth_41 rfl rfl ⟨Nat.le_refl _, Nat.le_refl _⟩ w
  · rw [if_neg c] at w
    refine w_aload_n dX11_depth_8 rfl ?_
    obtain ⟨e1, w⟩ := w
    refine w_getp dX11_depth_9 lk_RX11_50 e1 rfl ?_
    obtain ⟨e2, w⟩ := w
    refine w_getp dX11_depth_12 lk_RX11_283 e2 rfl ?_
    refine w_iload_n dX11_depth_15 rfl ?_
    obtain ⟨e3, w⟩ := w
    refine w_callV (As := [.int l1]) (st := []) dX11_depth_16 mt_X6_at g_892 g_724 g_725 rfl e3 rfl rfl (Nat.le_of_ble_eq_true rfl) (Nat.le_refl _) ⟨Nat.le_refl _, Nat.le_refl _⟩ w ?_
    rintro v h4 ⟨r3, rfl, w⟩
    refine w_goto (tgt := 23) dX11_depth_19 rfl ?_
    refine v_istore_n (l' := [.ref l0, .int l1, .int r3]) dX11_depth_23 (Nat.le_of_ble_eq_true rfl) rfl ?_
    refine w_iload_n dX11_depth_24 rfl ?_
    refine w_iconst (v := (-1)) dX11_depth_25 rfl ?_
    refine w_ic_ne (tgt := 33) dX11_depth_26 rfl (fun c => ?_) (fun c => ?_)
    · rw [if_neg c] at w
      refine w_aload_n dX11_depth_33 rfl ?_
      obtain ⟨e1, w⟩ := w
      refine w_getp dX11_depth_34 lk_RX11_50 e1 rfl ?_
      refine w_iload_n dX11_depth_37 rfl ?_
      obtain ⟨e2, w⟩ := w
      refine w_callV (As := [.int r3]) (st := []) dX11_depth_38 mt_X0_depthOf g_1164 g_1165 g_1166 rfl e2 rfl rfl (Nat.le_of_ble_eq_true rfl) (Nat.le_refl _) ⟨Nat.le_refl _, Nat.le_refl _⟩ w ?_
      rintro v h6 ⟨r5, rfl, w⟩
      exact w_ireturn dX11_depth_41 rfl rfl ⟨Nat.le_refl _, Nat.le_refl _⟩ w
    · rw [if_pos c] at w
      refine w_iconst (v := (-1)) dX11_depth_29 rfl ?_
      refine w_goto (tgt := 41) dX11_depth_30 rfl ?_
      exact w_ireturn dX11_depth_41 rfl rfl ⟨Nat.le_refl _, Nat.le_refl _⟩ w
set_option maxRecDepth 20000 in
set_option maxHeartbeats 4000000 in
theorem x_X11_see {G : pm_G} {d : Nat} {post : pm_PT} {h : pm_H} {l0 : Nat} {l1 : Int32} {l2 : Int32} {l3 : Int32} (w :
    if l1 < 0 then (
      post (some (.int 0)) h
    ) else (
      if 10 ≤ l1 then (
        post (some (.int 0)) h
      ) else (
        if l2 < 0 then (
          post (some (.int 0)) h
        ) else (
          if 4 ≤ l2 then (
            post (some (.int 0)) h
          ) else (
            (h.1[l0]? = some (0, 10)) ∧
            if (gi h l0 9) < 8 then (
              if l3 = 0 then (
                (h.1[gp h l0 8]? = some (0, 6)) ∧
                cv G d m_X6_set [.ref (gp h l0 8), .int (gi h l0 9), .int ((((l1 * 4) + l2) * 2) + 0)] h fun h2 =>
                (h2.1[l0]? = some (0, 10)) ∧
                ∀ h3 : pm_H, h3 = si h2 l0 9 ((gi h2 l0 9) + 1) →
                post (some (.int 1)) h3
              ) else (
                (h.1[gp h l0 8]? = some (0, 6)) ∧
                cv G d m_X6_set [.ref (gp h l0 8), .int (gi h l0 9), .int ((((l1 * 4) + l2) * 2) + 1)] h fun h5 =>
                (h5.1[l0]? = some (0, 10)) ∧
                ∀ h6 : pm_H, h6 = si h5 l0 9 ((gi h5 l0 9) + 1) →
                post (some (.int 1)) h6
              )
            ) else (
              post (some (.int 0)) h
            )
          )
        )
      )
    )) :
    Wp G (m_X11_see, d + 1, 0, 0, post) (0, 0) 0 [.ref l0, .int l1, .int l2, .int l3] [] h := by
  refine w_iload_n dX11_see_0 rfl ?_
  refine w_if_lt (tgt := 28) dX11_see_1 rfl (fun c => ?_) (fun c => ?_)
  · rw [if_pos c] at w
    refine w_iconst (v := 0) dX11_see_28 rfl ?_
    exact w_ireturn dX11_see_29 rfl rfl ⟨Nat.le_refl _, Nat.le_refl _⟩ w
  · rw [if_neg c] at w
    refine w_iload_n dX11_see_4 rfl ?_
    refine w_bipush (v := 10) dX11_see_5 rfl ?_
    refine w_ic_ge (tgt := 28) dX11_see_7 rfl (fun c => ?_) (fun c => ?_)
    · rw [if_pos c] at w
      refine w_iconst (v := 0) dX11_see_28 rfl ?_
      exact w_ireturn dX11_see_29 rfl rfl ⟨Nat.le_refl _, Nat.le_refl _⟩ w
    · rw [if_neg c] at w
      refine w_iload_n dX11_see_10 rfl ?_
      refine w_if_lt (tgt := 28) dX11_see_11 rfl (fun c => ?_) (fun c => ?_)
      · rw [if_pos c] at w
        refine w_iconst (v := 0) dX11_see_28 rfl ?_
        exact w_ireturn dX11_see_29 rfl rfl ⟨Nat.le_refl _, Nat.le_refl _⟩ w
      · rw [if_neg c] at w
        refine w_iload_n dX11_see_14 rfl ?_
        refine w_iconst (v := 4) dX11_see_15 rfl ?_
        refine w_ic_ge (tgt := 28) dX11_see_16 rfl (fun c => ?_) (fun c => ?_)
        · rw [if_pos c] at w
          refine w_iconst (v := 0) dX11_see_28 rfl ?_
          exact w_ireturn dX11_see_29 rfl rfl ⟨Nat.le_refl _, Nat.le_refl _⟩ w
        · rw [if_neg c] at w
          refine w_aload_n dX11_see_19 rfl ?_
          obtain ⟨e1, w⟩ := w
          refine w_geti dX11_see_20 lk_RX11_70 e1 rfl ?_
          refine w_bipush (v := 8) dX11_see_23 rfl ?_
          refine w_ic_lt (tgt := 30) dX11_see_25 rfl (fun c => ?_) (fun c => ?_)
          · rw [if_pos c] at w
            refine w_aload_n dX11_see_30 rfl ?_
            refine w_getp dX11_see_31 lk_RX11_66 e1 rfl ?_
            refine w_aload_n dX11_see_34 rfl ?_
            refine w_geti dX11_see_35 lk_RX11_70 e1 rfl ?_
            refine w_iload_n dX11_see_38 rfl ?_
            refine w_iconst (v := 4) dX11_see_39 rfl ?_
            refine w_imul dX11_see_40 ?_
            refine w_iload_n dX11_see_41 rfl ?_
            refine w_iadd dX11_see_42 ?_
            refine w_iconst (v := 2) dX11_see_43 rfl ?_
            refine w_imul dX11_see_44 ?_
            refine w_iload_n dX11_see_45 rfl ?_
            refine w_if_eq (tgt := 53) dX11_see_46 rfl (fun c => ?_) (fun c => ?_)
            · rw [if_pos c] at w
              refine w_iconst (v := 0) dX11_see_53 rfl ?_
              refine w_iadd dX11_see_54 ?_
              obtain ⟨e2, w⟩ := w
              refine w_callV (As := [.int (gi h l0 9), .int ((((l1 * 4) + l2) * 2) + 0)]) (st := []) dX11_see_55 mt_X6_set g_1172 g_667 g_668 rfl e2 rfl rfl (Nat.le_of_ble_eq_true rfl) (Nat.le_refl _) ⟨Nat.le_refl _, Nat.le_refl _⟩ w ?_
              rintro v h2 ⟨rfl, w⟩
              refine w_aload_n dX11_see_58 rfl ?_
              refine w_dup dX11_see_59 rfl ?_
              obtain ⟨e1, w⟩ := w
              refine w_geti dX11_see_60 lk_RX11_70 e1 rfl ?_
              refine w_iconst (v := 1) dX11_see_63 rfl ?_
              refine w_iadd dX11_see_64 ?_
              refine w_puti dX11_see_65 lk_RX11_70 e1 rfl (Or.inl rfl) ?_
              have w := w _ rfl
              refine w_iconst (v := 1) dX11_see_68 rfl ?_
              exact w_ireturn dX11_see_69 rfl rfl ⟨Nat.le_refl _, Nat.le_refl _⟩ w
            · rw [if_neg c] at w
              refine w_iconst (v := 1) dX11_see_49 rfl ?_
              refine w_goto (tgt := 54) dX11_see_50 rfl ?_
              refine w_iadd dX11_see_54 ?_
              obtain ⟨e2, w⟩ := w
              refine w_callV (As := [.int (gi h l0 9), .int ((((l1 * 4) + l2) * 2) + 1)]) (st := []) dX11_see_55 mt_X6_set g_1172 g_667 g_668 rfl e2 rfl rfl (Nat.le_of_ble_eq_true rfl) (Nat.le_refl _) ⟨Nat.le_refl _, Nat.le_refl _⟩ w ?_
              rintro v h5 ⟨rfl, w⟩
              refine w_aload_n dX11_see_58 rfl ?_
              refine w_dup dX11_see_59 rfl ?_
              obtain ⟨e1, w⟩ := w
              refine w_geti dX11_see_60 lk_RX11_70 e1 rfl ?_
              refine w_iconst (v := 1) dX11_see_63 rfl ?_
              refine w_iadd dX11_see_64 ?_
              refine w_puti dX11_see_65 lk_RX11_70 e1 rfl (Or.inl rfl) ?_
              have w := w _ rfl
              refine w_iconst (v := 1) dX11_see_68 rfl ?_
              exact w_ireturn dX11_see_69 rfl rfl ⟨Nat.le_refl _, Nat.le_refl _⟩ w
          · rw [if_neg c] at w
            refine w_iconst (v := 0) dX11_see_28 rfl ?_
            exact w_ireturn dX11_see_29 rfl rfl ⟨Nat.le_refl _, Nat.le_refl _⟩ w
set_option maxRecDepth 20000 in
set_option maxHeartbeats 4000000 in
theorem x_X11_who {G : pm_G} {d : Nat} {post : pm_PT} {h : pm_H} {l0 : Nat} (w :
    (h.1[l0]? = some (0, 10)) ∧
    ∀ h1 : pm_H, h1 = si h l0 10 ((gi h l0 10) + 1) →
    (h.1[gp h1 l0 7]? = some (0, 8)) ∧
    cv G d m_X8_foresee [.ref (gp h1 l0 7), .ref (gp h1 l0 6)] h1 fun h3 =>
    (h3.1[l0]? = some (0, 10)) ∧
    (h3.1[gp h3 l0 7]? = some (0, 8)) ∧
    ci G d m_X8_fitting [.ref (gp h3 l0 7), .ref (gp h3 l0 8), .int (gi h3 l0 9)] h3 fun r4 h5 =>
    post (some (.int r4)) h5) :
    Wp G (m_X11_who, d + 1, 0, 0, post) (0, 0) 0 [.ref l0] [] h := by
  refine w_aload_n dX11_who_0 rfl ?_
  refine w_dup dX11_who_1 rfl ?_
  obtain ⟨e1, w⟩ := w
  refine w_geti dX11_who_2 lk_RX11_74 e1 rfl ?_
  refine w_iconst (v := 1) dX11_who_5 rfl ?_
  refine w_iadd dX11_who_6 ?_
  refine w_puti dX11_who_7 lk_RX11_74 e1 rfl (Or.inl rfl) ?_
  have w := w _ rfl
  refine w_aload_n dX11_who_10 rfl ?_
  refine w_getp dX11_who_11 lk_RX11_57 e1 rfl ?_
  refine w_aload_n dX11_who_14 rfl ?_
  refine w_getp dX11_who_15 lk_RX11_50 e1 rfl ?_
  obtain ⟨e2, w⟩ := w
  refine w_callV (As := [.ref (gp (si h l0 10 ((gi h l0 10) + 1)) l0 6)]) (st := []) dX11_who_18 mt_X8_foresee g_1177 g_1178 g_1179 rfl e2 rfl rfl (Nat.le_of_ble_eq_true rfl) (Nat.le_refl _) ⟨Nat.le_refl _, Nat.le_refl _⟩ w ?_
  rintro v h3 ⟨rfl, w⟩
  refine w_aload_n dX11_who_21 rfl ?_
  obtain ⟨e1, w⟩ := w
  refine w_getp dX11_who_22 lk_RX11_57 e1 rfl ?_
  refine w_aload_n dX11_who_25 rfl ?_
  refine w_getp dX11_who_26 lk_RX11_66 e1 rfl ?_
  refine w_aload_n dX11_who_29 rfl ?_
  refine w_geti dX11_who_30 lk_RX11_70 e1 rfl ?_
  obtain ⟨e2, w⟩ := w
  refine w_callV (As := [.ref (gp h3 l0 8), .int (gi h3 l0 9)]) (st := []) dX11_who_33 mt_X8_fitting g_1182 g_1183 g_1184 rfl e2 rfl rfl (Nat.le_of_ble_eq_true rfl) (Nat.le_refl _) ⟨Nat.le_refl _, Nat.le_refl _⟩ w ?_
  rintro v h5 ⟨r4, rfl, w⟩
  exact w_ireturn dX11_who_36 rfl rfl ⟨Nat.le_refl _, Nat.le_refl _⟩ w
set_option maxRecDepth 20000 in
set_option maxHeartbeats 4000000 in
theorem x_X11_ask {G : pm_G} {d : Nat} {post : pm_PT} {h : pm_H} {l0 : Nat} (w :
    (h.1[l0]? = some (0, 10)) ∧
    ∀ h1 : pm_H, h1 = si h l0 10 ((gi h l0 10) + 1) →
    (h.1[gp h1 l0 7]? = some (0, 8)) ∧
    cv G d m_X8_foresee [.ref (gp h1 l0 7), .ref (gp h1 l0 6)] h1 fun h3 =>
    (h3.1[l0]? = some (0, 10)) ∧
    (h3.1[gp h3 l0 7]? = some (0, 8)) ∧
    ci G d m_X8_fitting [.ref (gp h3 l0 7), .ref (gp h3 l0 8), .int (gi h3 l0 9)] h3 fun r4 h5 =>
    (h5.1[gp h3 l0 7]? = some (0, 8)) ∧
    ci G d m_X8_bestQuestion [.ref (gp h3 l0 7), .int r4] h5 fun r6 h7 =>
    post (some (.int r6)) h7) :
    Wp G (m_X11_ask, d + 1, 0, 0, post) (0, 0) 0 [.ref l0] [] h := by
  refine w_aload_n dX11_ask_0 rfl ?_
  refine w_dup dX11_ask_1 rfl ?_
  obtain ⟨e1, w⟩ := w
  refine w_geti dX11_ask_2 lk_RX11_74 e1 rfl ?_
  refine w_iconst (v := 1) dX11_ask_5 rfl ?_
  refine w_iadd dX11_ask_6 ?_
  refine w_puti dX11_ask_7 lk_RX11_74 e1 rfl (Or.inl rfl) ?_
  have w := w _ rfl
  refine w_aload_n dX11_ask_10 rfl ?_
  refine w_getp dX11_ask_11 lk_RX11_57 e1 rfl ?_
  refine w_aload_n dX11_ask_14 rfl ?_
  refine w_getp dX11_ask_15 lk_RX11_50 e1 rfl ?_
  obtain ⟨e2, w⟩ := w
  refine w_callV (As := [.ref (gp (si h l0 10 ((gi h l0 10) + 1)) l0 6)]) (st := []) dX11_ask_18 mt_X8_foresee g_1177 g_1178 g_1179 rfl e2 rfl rfl (Nat.le_of_ble_eq_true rfl) (Nat.le_refl _) ⟨Nat.le_refl _, Nat.le_refl _⟩ w ?_
  rintro v h3 ⟨rfl, w⟩
  refine w_aload_n dX11_ask_21 rfl ?_
  obtain ⟨e1, w⟩ := w
  refine w_getp dX11_ask_22 lk_RX11_57 e1 rfl ?_
  refine w_aload_n dX11_ask_25 rfl ?_
  refine w_getp dX11_ask_26 lk_RX11_57 e1 rfl ?_
  refine w_aload_n dX11_ask_29 rfl ?_
  refine w_getp dX11_ask_30 lk_RX11_66 e1 rfl ?_
  refine w_aload_n dX11_ask_33 rfl ?_
  refine w_geti dX11_ask_34 lk_RX11_70 e1 rfl ?_
  obtain ⟨e2, w⟩ := w
  refine w_callV (As := [.ref (gp h3 l0 8), .int (gi h3 l0 9)]) (st := [.ref (gp h3 l0 7)]) dX11_ask_37 mt_X8_fitting g_1182 g_1183 g_1184 rfl e2 rfl rfl (Nat.le_of_ble_eq_true rfl) (Nat.le_refl _) ⟨Nat.le_refl _, Nat.le_refl _⟩ w ?_
  rintro v h5 ⟨r4, rfl, w⟩
  obtain ⟨e1, w⟩ := w
  refine w_callV (As := [.int r4]) (st := []) dX11_ask_40 mt_X8_bestQuestion g_1194 g_1195 g_1196 rfl e1 rfl rfl (Nat.le_of_ble_eq_true rfl) (Nat.le_refl _) ⟨Nat.le_refl _, Nat.le_refl _⟩ w ?_
  rintro v h7 ⟨r6, rfl, w⟩
  exact w_ireturn dX11_ask_43 rfl rfl ⟨Nat.le_refl _, Nat.le_refl _⟩ w
set_option maxRecDepth 20000 in
set_option maxHeartbeats 4000000 in
theorem x_X11_days {G : pm_G} {d : Nat} {post : pm_PT} {h : pm_H} {l0 : Nat} {l1 : Int32} {l2 : Int32} {l3 : Int32} (w :
    if l1 < 0 then (
      post (some (.int (-1))) h
    ) else (
      if 9999 < l1 then (
        post (some (.int (-1))) h
      ) else (
        if l2 < 1 then (
          post (some (.int (-1))) h
        ) else (
          if 99 < l2 then (
            post (some (.int (-1))) h
          ) else (
            if l3 < 0 then (
              post (some (.int (-1))) h
            ) else (
              if l3 ≤ 2 then (
                (h.1[l0]? = some (0, 10)) ∧
                ∀ h1 : pm_H, h1 = si h l0 10 ((gi h l0 10) + 1) →
                (h.1[gp h1 l0 7]? = some (0, 8)) ∧
                ci G d m_X8_live [.ref (gp h1 l0 7), .ref (gp h1 l0 6), .int l1, .int l2] h1 fun r2 h3 =>
                if l3 = 0 then (
                  post (some (.int r2)) h3
                ) else (
                  if l3 = 1 then (
                    (h3.1[l0]? = some (0, 10)) ∧
                    (h3.1[gp h3 l0 7]? = some (0, 8)) ∧
                    (h3.1[gp h3 (gp h3 l0 7) 1]? = some (0, 0)) ∧
                    ci G d m_X0_raisedInAll [.ref (gp h3 (gp h3 l0 7) 1)] h3 fun r4 h5 =>
                    post (some (.int r4)) h5
                  ) else (
                    (h3.1[l0]? = some (0, 10)) ∧
                    (h3.1[gp h3 l0 7]? = some (0, 8)) ∧
                    (h3.1[gp h3 (gp h3 l0 7) 1]? = some (0, 0)) ∧
                    ci G d m_X0_itemsOnFloor [.ref (gp h3 (gp h3 l0 7) 1)] h3 fun r6 h7 =>
                    post (some (.int r6)) h7
                  )
                )
              ) else (
                post (some (.int (-1))) h
              )
            )
          )
        )
      )
    )) :
    Wp G (m_X11_days, d + 1, 0, 0, post) (0, 0) 0 [.ref l0, .int l1, .int l2, .int l3, .null] [] h := by
  refine w_iload_n dX11_days_0 rfl ?_
  refine w_if_lt (tgt := 31) dX11_days_1 rfl (fun c => ?_) (fun c => ?_)
  · rw [if_pos c] at w
    refine w_iconst (v := (-1)) dX11_days_31 rfl ?_
    exact w_ireturn dX11_days_32 rfl rfl ⟨Nat.le_refl _, Nat.le_refl _⟩ w
  · rw [if_neg c] at w
    refine w_iload_n dX11_days_4 rfl ?_
    refine w_sipush (v := 9999) dX11_days_5 rfl ?_
    refine w_ic_gt (tgt := 31) dX11_days_8 rfl (fun c => ?_) (fun c => ?_)
    · rw [if_pos c] at w
      refine w_iconst (v := (-1)) dX11_days_31 rfl ?_
      exact w_ireturn dX11_days_32 rfl rfl ⟨Nat.le_refl _, Nat.le_refl _⟩ w
    · rw [if_neg c] at w
      refine w_iload_n dX11_days_11 rfl ?_
      refine w_iconst (v := 1) dX11_days_12 rfl ?_
      refine w_ic_lt (tgt := 31) dX11_days_13 rfl (fun c => ?_) (fun c => ?_)
      · rw [if_pos c] at w
        refine w_iconst (v := (-1)) dX11_days_31 rfl ?_
        exact w_ireturn dX11_days_32 rfl rfl ⟨Nat.le_refl _, Nat.le_refl _⟩ w
      · rw [if_neg c] at w
        refine w_iload_n dX11_days_16 rfl ?_
        refine w_bipush (v := 99) dX11_days_17 rfl ?_
        refine w_ic_gt (tgt := 31) dX11_days_19 rfl (fun c => ?_) (fun c => ?_)
        · rw [if_pos c] at w
          refine w_iconst (v := (-1)) dX11_days_31 rfl ?_
          exact w_ireturn dX11_days_32 rfl rfl ⟨Nat.le_refl _, Nat.le_refl _⟩ w
        · rw [if_neg c] at w
          refine w_iload_n dX11_days_22 rfl ?_
          refine w_if_lt (tgt := 31) dX11_days_23 rfl (fun c => ?_) (fun c => ?_)
          · rw [if_pos c] at w
            refine w_iconst (v := (-1)) dX11_days_31 rfl ?_
            exact w_ireturn dX11_days_32 rfl rfl ⟨Nat.le_refl _, Nat.le_refl _⟩ w
          · rw [if_neg c] at w
            refine w_iload_n dX11_days_26 rfl ?_
            refine w_iconst (v := 2) dX11_days_27 rfl ?_
            refine w_ic_le (tgt := 33) dX11_days_28 rfl (fun c => ?_) (fun c => ?_)
            · rw [if_pos c] at w
              refine w_aload_n dX11_days_33 rfl ?_
              refine w_dup dX11_days_34 rfl ?_
              obtain ⟨e1, w⟩ := w
              refine w_geti dX11_days_35 lk_RX11_74 e1 rfl ?_
              refine w_iconst (v := 1) dX11_days_38 rfl ?_
              refine w_iadd dX11_days_39 ?_
              refine w_puti dX11_days_40 lk_RX11_74 e1 rfl (Or.inl rfl) ?_
              have w := w _ rfl
              refine w_aload_n dX11_days_43 rfl ?_
              refine w_getp dX11_days_44 lk_RX11_57 e1 rfl ?_
              refine w_aload_n dX11_days_47 rfl ?_
              refine w_getp dX11_days_48 lk_RX11_50 e1 rfl ?_
              refine w_iload_n dX11_days_51 rfl ?_
              refine w_iload_n dX11_days_52 rfl ?_
              obtain ⟨e2, w⟩ := w
              refine w_callV (As := [.ref (gp (si h l0 10 ((gi h l0 10) + 1)) l0 6), .int l1, .int l2]) (st := []) dX11_days_53 mt_X8_live g_1208 g_1209 g_1210 rfl e2 rfl rfl (Nat.le_of_ble_eq_true rfl) (Nat.le_refl _) ⟨Nat.le_refl _, Nat.le_refl _⟩ w ?_
              rintro v h3 ⟨r2, rfl, w⟩
              refine v_istore (l' := [.ref l0, .int l1, .int l2, .int l3, .int r2]) dX11_days_56 (Nat.le_of_ble_eq_true rfl) rfl ?_
              refine w_iload_n dX11_days_58 rfl ?_
              refine w_if_ne (tgt := 65) dX11_days_59 rfl (fun c => ?_) (fun c => ?_)
              · rw [if_neg c] at w
                refine w_iload_n dX11_days_65 rfl ?_
                refine w_iconst (v := 1) dX11_days_66 rfl ?_
                refine w_ic_ne (tgt := 83) dX11_days_67 rfl (fun c => ?_) (fun c => ?_)
                · rw [if_neg c] at w
                  refine w_aload_n dX11_days_83 rfl ?_
                  obtain ⟨e1, w⟩ := w
                  refine w_getp dX11_days_84 lk_RX11_57 e1 rfl ?_
                  obtain ⟨e2, w⟩ := w
                  refine w_getp dX11_days_87 lk_RX11_225 e2 rfl ?_
                  obtain ⟨e3, w⟩ := w
                  refine w_callV (As := []) (st := []) dX11_days_90 mt_X0_itemsOnFloor g_1034 g_1035 g_1036 rfl e3 rfl rfl (Nat.le_of_ble_eq_true rfl) (Nat.le_refl _) ⟨Nat.le_refl _, Nat.le_refl _⟩ w ?_
                  rintro v h7 ⟨r6, rfl, w⟩
                  exact w_ireturn dX11_days_93 rfl rfl ⟨Nat.le_refl _, Nat.le_refl _⟩ w
                · rw [if_pos c] at w
                  refine w_aload_n dX11_days_70 rfl ?_
                  obtain ⟨e1, w⟩ := w
                  refine w_getp dX11_days_71 lk_RX11_57 e1 rfl ?_
                  obtain ⟨e2, w⟩ := w
                  refine w_getp dX11_days_74 lk_RX11_225 e2 rfl ?_
                  obtain ⟨e3, w⟩ := w
                  refine w_callV (As := []) (st := []) dX11_days_77 mt_X0_raisedInAll g_1038 g_1039 g_1040 rfl e3 rfl rfl (Nat.le_of_ble_eq_true rfl) (Nat.le_refl _) ⟨Nat.le_refl _, Nat.le_refl _⟩ w ?_
                  rintro v h5 ⟨r4, rfl, w⟩
                  refine w_goto (tgt := 93) dX11_days_80 rfl ?_
                  exact w_ireturn dX11_days_93 rfl rfl ⟨Nat.le_refl _, Nat.le_refl _⟩ w
              · rw [if_pos c] at w
                refine w_iload dX11_days_62 rfl ?_
                exact w_ireturn dX11_days_64 rfl rfl ⟨Nat.le_refl _, Nat.le_refl _⟩ w
            · rw [if_neg c] at w
              refine w_iconst (v := (-1)) dX11_days_31 rfl ?_
              exact w_ireturn dX11_days_32 rfl rfl ⟨Nat.le_refl _, Nat.le_refl _⟩ w
set_option maxRecDepth 20000 in
set_option maxHeartbeats 4000000 in
theorem x_X11_mark {G : pm_G} {d : Nat} {post : pm_PT} {h : pm_H} {l0 : Nat} {l1 : Int32} {l2 : Int32} (w :
    if l1 < 0 then (
      post (some (.int 0)) h
    ) else (
      if 2 ≤ l1 then (
        post (some (.int 0)) h
      ) else (
        if l2 = 0 then (
          Wp G (m_X11_mark, d + 1, 0, 0, post) (0, 0) 27 [.ref l0, .int l1, .int l2, .null] [] h
        ) else (
          (h.1[l0]? = some (0, 10)) ∧
          (h.1[gp h l0 16]? = some (0, 6)) ∧
          ci G d m_X6_at [.ref (gp h l0 16), .int l1] h fun r1 h2 =>
          if r1 = (-1) then (
            post (some (.int 0)) h2
          ) else (
            Wp G (m_X11_mark, d + 1, 0, 0, post) (0, 0) 27 [.ref l0, .int l1, .int l2, .null] [] h2
          )
        )
      )
    )) :
    Wp G (m_X11_mark, d + 1, 0, 0, post) (0, 0) 0 [.ref l0, .int l1, .int l2, .null] [] h := by
  refine w_iload_n dX11_mark_0 rfl ?_
  refine w_if_lt (tgt := 25) dX11_mark_1 rfl (fun c => ?_) (fun c => ?_)
  · rw [if_pos c] at w
    refine w_iconst (v := 0) dX11_mark_25 rfl ?_
    exact w_ireturn dX11_mark_26 rfl rfl ⟨Nat.le_refl _, Nat.le_refl _⟩ w
  · rw [if_neg c] at w
    refine w_iload_n dX11_mark_4 rfl ?_
    refine w_iconst (v := 2) dX11_mark_5 rfl ?_
    refine w_ic_ge (tgt := 25) dX11_mark_6 rfl (fun c => ?_) (fun c => ?_)
    · rw [if_pos c] at w
      refine w_iconst (v := 0) dX11_mark_25 rfl ?_
      exact w_ireturn dX11_mark_26 rfl rfl ⟨Nat.le_refl _, Nat.le_refl _⟩ w
    · rw [if_neg c] at w
      refine w_iload_n dX11_mark_9 rfl ?_
      refine w_if_eq (tgt := 27) dX11_mark_10 rfl (fun c => ?_) (fun c => ?_)
      · rw [if_pos c] at w
        exact w
      · rw [if_neg c] at w
        refine w_aload_n dX11_mark_13 rfl ?_
        obtain ⟨e1, w⟩ := w
        refine w_getp dX11_mark_14 lk_RX11_93 e1 rfl ?_
        refine w_iload_n dX11_mark_17 rfl ?_
        obtain ⟨e2, w⟩ := w
        refine w_callV (As := [.int l1]) (st := []) dX11_mark_18 mt_X6_at g_892 g_724 g_725 rfl e2 rfl rfl (Nat.le_of_ble_eq_true rfl) (Nat.le_refl _) ⟨Nat.le_refl _, Nat.le_refl _⟩ w ?_
        rintro v h2 ⟨r1, rfl, w⟩
        refine w_iconst (v := (-1)) dX11_mark_21 rfl ?_
        refine w_ic_ne (tgt := 27) dX11_mark_22 rfl (fun c => ?_) (fun c => ?_)
        · rw [if_neg c] at w
          exact w
        · rw [if_pos c] at w
          refine w_iconst (v := 0) dX11_mark_25 rfl ?_
          exact w_ireturn dX11_mark_26 rfl rfl ⟨Nat.le_refl _, Nat.le_refl _⟩ w
set_option maxRecDepth 20000 in
set_option maxHeartbeats 4000000 in
theorem x_X11_mark_27 {G : pm_G} {d : Nat} {post : pm_PT} {h : pm_H} {l0 : Nat} {l1 : Int32} {l2 : Int32} (w :
    if l2 = 0 then (
      (h.1[l0]? = some (0, 10)) ∧
      cp G d m_X11_forestAt [.ref l0, .ref (gp h l0 14), .int l1] h fun r1 h2 =>
      (h2.1[l0]? = some (0, 10)) ∧
      (h2.1[r1]? = some (0, 0)) ∧
      cv G d m_X0_copyFrom [.ref r1, .ref (gp h2 l0 6)] h2 fun h4 =>
      (h4.1[l0]? = some (0, 10)) ∧
      (h4.1[gp h4 l0 16]? = some (0, 6)) ∧
      cv G d m_X6_set [.ref (gp h4 l0 16), .int l1, .int (gi h4 l0 9)] h4 fun h6 =>
      (h6.1[l0]? = some (0, 10)) ∧
      (h6.1[gp h6 l0 15]? = some (0, 6)) ∧
      cv G d m_X6_copyPart [.ref (gp h6 l0 15), .int (l1 * 8), .ref (gp h6 l0 8), .int 0, .int 8] h6 fun h8 =>
      post (some (.int 1)) h8
    ) else (
      (h.1[l0]? = some (0, 10)) ∧
      cp G d m_X11_forestAt [.ref l0, .ref (gp h l0 14), .int l1] h fun r9 h10 =>
      (h10.1[gp h l0 6]? = some (0, 0)) ∧
      cv G d m_X0_copyFrom [.ref (gp h l0 6), .ref r9] h10 fun h12 =>
      (h12.1[l0]? = some (0, 10)) ∧
      (h12.1[gp h12 l0 16]? = some (0, 6)) ∧
      ci G d m_X6_at [.ref (gp h12 l0 16), .int l1] h12 fun r13 h14 =>
      (h14.1[l0]? = some (0, 10)) ∧
      ∀ h15 : pm_H, h15 = si h14 l0 9 r13 →
      (h14.1[gp h15 l0 8]? = some (0, 6)) ∧
      cv G d m_X6_copyPart [.ref (gp h15 l0 8), .int 0, .ref (gp h15 l0 15), .int (l1 * 8), .int 8] h15 fun h17 =>
      (h17.1[l0]? = some (0, 10)) ∧
      ∀ h18 : pm_H, h18 = si h17 l0 13 0 →
      post (some (.int 1)) h18
    )) :
    Wp G (m_X11_mark, d + 1, 0, 0, post) (0, 0) 27 [.ref l0, .int l1, .int l2, .null] [] h := by
  refine w_iload_n dX11_mark_27 rfl ?_
  refine w_bipush (v := 8) dX11_mark_28 rfl ?_
  refine w_imul dX11_mark_30 ?_
  refine v_istore_n (l' := [.ref l0, .int l1, .int l2, .int (l1 * 8)]) dX11_mark_31 (Nat.le_of_ble_eq_true rfl) rfl ?_
  refine w_iload_n dX11_mark_32 rfl ?_
  refine w_if_eq (tgt := 87) dX11_mark_33 rfl (fun c => ?_) (fun c => ?_)
  · rw [if_pos c] at w
    refine w_aload_n dX11_mark_87 rfl ?_
    refine w_aload_n dX11_mark_88 rfl ?_
    obtain ⟨e1, w⟩ := w
    refine w_getp dX11_mark_89 lk_RX11_87 e1 rfl ?_
    refine w_iload_n dX11_mark_92 rfl ?_
    refine w_callV (As := [.ref (gp h l0 14), .int l1]) (st := []) dX11_mark_93 mt_X11_forestAt g_968 g_970 g_38 rfl e1 rfl rfl (Nat.le_of_ble_eq_true rfl) (Nat.le_refl _) ⟨Nat.le_refl _, Nat.le_refl _⟩ w ?_
    rintro v h2 ⟨r1, rfl, w⟩
    refine w_aload_n dX11_mark_96 rfl ?_
    obtain ⟨e1, w⟩ := w
    refine w_getp dX11_mark_97 lk_RX11_50 e1 rfl ?_
    obtain ⟨e2, w⟩ := w
    refine w_callV (As := [.ref (gp h2 l0 6)]) (st := []) dX11_mark_100 mt_X0_copyFrom g_972 g_973 g_974 rfl e2 rfl rfl (Nat.le_of_ble_eq_true rfl) (Nat.le_refl _) ⟨Nat.le_refl _, Nat.le_refl _⟩ w ?_
    rintro v h4 ⟨rfl, w⟩
    refine w_aload_n dX11_mark_103 rfl ?_
    obtain ⟨e1, w⟩ := w
    refine w_getp dX11_mark_104 lk_RX11_93 e1 rfl ?_
    refine w_iload_n dX11_mark_107 rfl ?_
    refine w_aload_n dX11_mark_108 rfl ?_
    refine w_geti dX11_mark_109 lk_RX11_70 e1 rfl ?_
    obtain ⟨e2, w⟩ := w
    refine w_callV (As := [.int l1, .int (gi h4 l0 9)]) (st := []) dX11_mark_112 mt_X6_set g_1172 g_667 g_668 rfl e2 rfl rfl (Nat.le_of_ble_eq_true rfl) (Nat.le_refl _) ⟨Nat.le_refl _, Nat.le_refl _⟩ w ?_
    rintro v h6 ⟨rfl, w⟩
    refine w_aload_n dX11_mark_115 rfl ?_
    obtain ⟨e1, w⟩ := w
    refine w_getp dX11_mark_116 lk_RX11_90 e1 rfl ?_
    refine w_iload_n dX11_mark_119 rfl ?_
    refine w_aload_n dX11_mark_120 rfl ?_
    refine w_getp dX11_mark_121 lk_RX11_66 e1 rfl ?_
    refine w_iconst (v := 0) dX11_mark_124 rfl ?_
    refine w_bipush (v := 8) dX11_mark_125 rfl ?_
    obtain ⟨e2, w⟩ := w
    refine w_callV (As := [.int (l1 * 8), .ref (gp h6 l0 8), .int 0, .int 8]) (st := []) dX11_mark_127 mt_X6_copyPart g_1224 g_1225 g_1226 rfl e2 rfl rfl (Nat.le_of_ble_eq_true rfl) (Nat.le_refl _) ⟨Nat.le_refl _, Nat.le_refl _⟩ w ?_
    rintro v h8 ⟨rfl, w⟩
    refine w_iconst (v := 1) dX11_mark_130 rfl ?_
    exact w_ireturn dX11_mark_131 rfl rfl ⟨Nat.le_refl _, Nat.le_refl _⟩ w
  · rw [if_neg c] at w
    refine w_aload_n dX11_mark_36 rfl ?_
    obtain ⟨e1, w⟩ := w
    refine w_getp dX11_mark_37 lk_RX11_50 e1 rfl ?_
    refine w_aload_n dX11_mark_40 rfl ?_
    refine w_aload_n dX11_mark_41 rfl ?_
    refine w_getp dX11_mark_42 lk_RX11_87 e1 rfl ?_
    refine w_iload_n dX11_mark_45 rfl ?_
    refine w_callV (As := [.ref (gp h l0 14), .int l1]) (st := [.ref (gp h l0 6)]) dX11_mark_46 mt_X11_forestAt g_968 g_970 g_38 rfl e1 rfl rfl (Nat.le_of_ble_eq_true rfl) (Nat.le_refl _) ⟨Nat.le_refl _, Nat.le_refl _⟩ w ?_
    rintro v h10 ⟨r9, rfl, w⟩
    obtain ⟨e1, w⟩ := w
    refine w_callV (As := [.ref r9]) (st := []) dX11_mark_49 mt_X0_copyFrom g_972 g_973 g_974 rfl e1 rfl rfl (Nat.le_of_ble_eq_true rfl) (Nat.le_refl _) ⟨Nat.le_refl _, Nat.le_refl _⟩ w ?_
    rintro v h12 ⟨rfl, w⟩
    refine w_aload_n dX11_mark_52 rfl ?_
    refine w_aload_n dX11_mark_53 rfl ?_
    obtain ⟨e1, w⟩ := w
    refine w_getp dX11_mark_54 lk_RX11_93 e1 rfl ?_
    refine w_iload_n dX11_mark_57 rfl ?_
    obtain ⟨e2, w⟩ := w
    refine w_callV (As := [.int l1]) (st := [.ref l0]) dX11_mark_58 mt_X6_at g_892 g_724 g_725 rfl e2 rfl rfl (Nat.le_of_ble_eq_true rfl) (Nat.le_refl _) ⟨Nat.le_refl _, Nat.le_refl _⟩ w ?_
    rintro v h14 ⟨r13, rfl, w⟩
    obtain ⟨e1, w⟩ := w
    refine w_puti dX11_mark_61 lk_RX11_70 e1 rfl (Or.inl rfl) ?_
    have w := w _ rfl
    refine w_aload_n dX11_mark_64 rfl ?_
    refine w_getp dX11_mark_65 lk_RX11_66 e1 rfl ?_
    refine w_iconst (v := 0) dX11_mark_68 rfl ?_
    refine w_aload_n dX11_mark_69 rfl ?_
    refine w_getp dX11_mark_70 lk_RX11_90 e1 rfl ?_
    refine w_iload_n dX11_mark_73 rfl ?_
    refine w_bipush (v := 8) dX11_mark_74 rfl ?_
    obtain ⟨e2, w⟩ := w
    refine w_callV (As := [.int 0, .ref (gp (si h14 l0 9 r13) l0 15), .int (l1 * 8), .int 8]) (st := []) dX11_mark_76 mt_X6_copyPart g_1224 g_1225 g_1226 rfl e2 rfl rfl (Nat.le_of_ble_eq_true rfl) (Nat.le_refl _) ⟨Nat.le_refl _, Nat.le_refl _⟩ w ?_
    rintro v h17 ⟨rfl, w⟩
    refine w_aload_n dX11_mark_79 rfl ?_
    refine w_iconst (v := 0) dX11_mark_80 rfl ?_
    obtain ⟨e1, w⟩ := w
    refine w_puti dX11_mark_81 lk_RX11_84 e1 rfl (Or.inl rfl) ?_
    have w := w _ rfl
    refine w_goto (tgt := 130) dX11_mark_84 rfl ?_
    refine w_iconst (v := 1) dX11_mark_130 rfl ?_
    exact w_ireturn dX11_mark_131 rfl rfl ⟨Nat.le_refl _, Nat.le_refl _⟩ w
set_option maxRecDepth 20000 in
set_option maxHeartbeats 4000000 in
theorem x_X11_count {G : pm_G} {d : Nat} {post : pm_PT} {h : pm_H} {l0 : Nat} {l1 : Int32} (w :
    if l1 = 0 then (
      (h.1[l0]? = some (0, 10)) ∧
      (h.1[gp h l0 1]? = some (0, 4)) ∧
      (h.1[gp h (gp h l0 1) 0]? = some (0, 3)) ∧
      post (some (.int (gi h (gp h (gp h l0 1) 0) 1))) h
    ) else (
    if l1 = 1 then (
      (h.1[l0]? = some (0, 10)) ∧
      (h.1[gp h l0 1]? = some (0, 4)) ∧
      (h.1[gp h (gp h l0 1) 1]? = some (0, 3)) ∧
      post (some (.int (gi h (gp h (gp h l0 1) 1) 1))) h
    ) else (
    if l1 = 2 then (
      (h.1[l0]? = some (0, 10)) ∧
      (h.1[gp h l0 1]? = some (0, 4)) ∧
      (h.1[gp h (gp h l0 1) 2]? = some (0, 3)) ∧
      post (some (.int (gi h (gp h (gp h l0 1) 2) 1))) h
    ) else (
    if l1 = 3 then (
      (h.1[l0]? = some (0, 10)) ∧
      (h.1[gp h l0 1]? = some (0, 4)) ∧
      post (some (.int (gi h (gp h l0 1) 8))) h
    ) else (
    if l1 = 4 then (
      (h.1[l0]? = some (0, 10)) ∧
      (h.1[gp h l0 6]? = some (0, 0)) ∧
      ci G d m_X0_itemsOnFloor [.ref (gp h l0 6)] h fun r1 h2 =>
      post (some (.int r1)) h2
    ) else (
    if l1 = 5 then (
      (h.1[l0]? = some (0, 10)) ∧
      (h.1[gp h l0 6]? = some (0, 0)) ∧
      ci G d m_X0_raisedInAll [.ref (gp h l0 6)] h fun r3 h4 =>
      post (some (.int r3)) h4
    ) else (
    if l1 = 6 then (
      (h.1[l0]? = some (0, 10)) ∧
      post (some (.int (gi h l0 10))) h
    ) else (
    if l1 = 7 then (
      (h.1[l0]? = some (0, 10)) ∧
      (h.1[gp h l0 3]? = some (0, 9)) ∧
      post (some (.int (gi h (gp h l0 3) 3))) h
    ) else (
    if l1 = 8 then (
      (h.1[l0]? = some (0, 10)) ∧
      post (some (.int (gi h l0 9))) h
    ) else (
    if l1 = 9 then (
      (h.1[l0]? = some (0, 10)) ∧
      post (some (.int (gi h l0 13))) h
    ) else (
    if l1 = 10 then (
      (h.1[l0]? = some (0, 10)) ∧
      (h.1[gp h l0 0]? = some (0, 7)) ∧
      post (some (.int (gi h (gp h l0 0) 1))) h
    ) else (
    post (some (.int (-1))) h
    )))))))))))) :
    Wp G (m_X11_count, d + 1, 0, 0, post) (0, 0) 0 [.ref l0, .int l1] [] h := by
  refine w_iload_n dX11_count_0 rfl ?_
  have sw : (l1 : Int32).toInt < 0 ∨ 10 < (l1 : Int32).toInt ∨ (l1 : Int32).toInt = 0 ∨ (l1 : Int32).toInt = 1 ∨ (l1 : Int32).toInt = 2 ∨ (l1 : Int32).toInt = 3 ∨ (l1 : Int32).toInt = 4 ∨ (l1 : Int32).toInt = 5 ∨ (l1 : Int32).toInt = 6 ∨ (l1 : Int32).toInt = 7 ∨ (l1 : Int32).toInt = 8 ∨ (l1 : Int32).toInt = 9 ∨ (l1 : Int32).toInt = 10 := by omega
  rcases sw with sw | sw | sw | sw | sw | sw | sw | sw | sw | sw | sw | sw | sw
  · refine w_tsw (tgt := 148) dX11_count_1 (by rw [if_pos (by first | exact Or.inl sw | exact Or.inr sw)]; rfl) (by first | exact Or.inl sw | exact Or.inr (Or.inl sw)) ?_
    rw [if_neg (fun q => by rw [q] at sw; revert sw; decide)] at w
    rw [if_neg (fun q => by rw [q] at sw; revert sw; decide)] at w
    rw [if_neg (fun q => by rw [q] at sw; revert sw; decide)] at w
    rw [if_neg (fun q => by rw [q] at sw; revert sw; decide)] at w
    rw [if_neg (fun q => by rw [q] at sw; revert sw; decide)] at w
    rw [if_neg (fun q => by rw [q] at sw; revert sw; decide)] at w
    rw [if_neg (fun q => by rw [q] at sw; revert sw; decide)] at w
    rw [if_neg (fun q => by rw [q] at sw; revert sw; decide)] at w
    rw [if_neg (fun q => by rw [q] at sw; revert sw; decide)] at w
    rw [if_neg (fun q => by rw [q] at sw; revert sw; decide)] at w
    rw [if_neg (fun q => by rw [q] at sw; revert sw; decide)] at w
    refine w_iconst (v := (-1)) dX11_count_148 rfl ?_
    exact w_ireturn dX11_count_149 rfl rfl ⟨Nat.le_refl _, Nat.le_refl _⟩ w
  · refine w_tsw (tgt := 148) dX11_count_1 (by rw [if_pos (by first | exact Or.inl sw | exact Or.inr sw)]; rfl) (by first | exact Or.inl sw | exact Or.inr (Or.inl sw)) ?_
    rw [if_neg (fun q => by rw [q] at sw; revert sw; decide)] at w
    rw [if_neg (fun q => by rw [q] at sw; revert sw; decide)] at w
    rw [if_neg (fun q => by rw [q] at sw; revert sw; decide)] at w
    rw [if_neg (fun q => by rw [q] at sw; revert sw; decide)] at w
    rw [if_neg (fun q => by rw [q] at sw; revert sw; decide)] at w
    rw [if_neg (fun q => by rw [q] at sw; revert sw; decide)] at w
    rw [if_neg (fun q => by rw [q] at sw; revert sw; decide)] at w
    rw [if_neg (fun q => by rw [q] at sw; revert sw; decide)] at w
    rw [if_neg (fun q => by rw [q] at sw; revert sw; decide)] at w
    rw [if_neg (fun q => by rw [q] at sw; revert sw; decide)] at w
    rw [if_neg (fun q => by rw [q] at sw; revert sw; decide)] at w
    refine w_iconst (v := (-1)) dX11_count_148 rfl ?_
    exact w_ireturn dX11_count_149 rfl rfl ⟨Nat.le_refl _, Nat.le_refl _⟩ w
  · have sv : (l1 : Int32) = 0 := Int32.toInt_inj.mp (sw.trans (by decide))
    refine w_tsw (tgt := 60) dX11_count_1 (by rw [sw]; rfl) (by rw [sw]; decide) ?_
    rw [if_pos sv] at w
    refine w_aload_n dX11_count_60 rfl ?_
    obtain ⟨e1, w⟩ := w
    refine w_getp dX11_count_61 lk_RX11_19 e1 rfl ?_
    obtain ⟨e2, w⟩ := w
    refine w_getp dX11_count_64 lk_RX11_313 e2 rfl ?_
    obtain ⟨e3, w⟩ := w
    refine w_geti dX11_count_67 lk_RX11_317 e3 rfl ?_
    exact w_ireturn dX11_count_70 rfl rfl ⟨Nat.le_refl _, Nat.le_refl _⟩ w
  · have sv : (l1 : Int32) = 1 := Int32.toInt_inj.mp (sw.trans (by decide))
    refine w_tsw (tgt := 71) dX11_count_1 (by rw [sw]; rfl) (by rw [sw]; decide) ?_
    rw [if_neg (fun q => by rw [q] at sw; revert sw; decide)] at w
    rw [if_pos sv] at w
    refine w_aload_n dX11_count_71 rfl ?_
    obtain ⟨e1, w⟩ := w
    refine w_getp dX11_count_72 lk_RX11_19 e1 rfl ?_
    obtain ⟨e2, w⟩ := w
    refine w_getp dX11_count_75 lk_RX11_320 e2 rfl ?_
    obtain ⟨e3, w⟩ := w
    refine w_geti dX11_count_78 lk_RX11_317 e3 rfl ?_
    exact w_ireturn dX11_count_81 rfl rfl ⟨Nat.le_refl _, Nat.le_refl _⟩ w
  · have sv : (l1 : Int32) = 2 := Int32.toInt_inj.mp (sw.trans (by decide))
    refine w_tsw (tgt := 82) dX11_count_1 (by rw [sw]; rfl) (by rw [sw]; decide) ?_
    rw [if_neg (fun q => by rw [q] at sw; revert sw; decide)] at w
    rw [if_neg (fun q => by rw [q] at sw; revert sw; decide)] at w
    rw [if_pos sv] at w
    refine w_aload_n dX11_count_82 rfl ?_
    obtain ⟨e1, w⟩ := w
    refine w_getp dX11_count_83 lk_RX11_19 e1 rfl ?_
    obtain ⟨e2, w⟩ := w
    refine w_getp dX11_count_86 lk_RX11_323 e2 rfl ?_
    obtain ⟨e3, w⟩ := w
    refine w_geti dX11_count_89 lk_RX11_317 e3 rfl ?_
    exact w_ireturn dX11_count_92 rfl rfl ⟨Nat.le_refl _, Nat.le_refl _⟩ w
  · have sv : (l1 : Int32) = 3 := Int32.toInt_inj.mp (sw.trans (by decide))
    refine w_tsw (tgt := 93) dX11_count_1 (by rw [sw]; rfl) (by rw [sw]; decide) ?_
    rw [if_neg (fun q => by rw [q] at sw; revert sw; decide)] at w
    rw [if_neg (fun q => by rw [q] at sw; revert sw; decide)] at w
    rw [if_neg (fun q => by rw [q] at sw; revert sw; decide)] at w
    rw [if_pos sv] at w
    refine w_aload_n dX11_count_93 rfl ?_
    obtain ⟨e1, w⟩ := w
    refine w_getp dX11_count_94 lk_RX11_19 e1 rfl ?_
    obtain ⟨e2, w⟩ := w
    refine w_geti dX11_count_97 lk_RX11_286 e2 rfl ?_
    exact w_ireturn dX11_count_100 rfl rfl ⟨Nat.le_refl _, Nat.le_refl _⟩ w
  · have sv : (l1 : Int32) = 4 := Int32.toInt_inj.mp (sw.trans (by decide))
    refine w_tsw (tgt := 101) dX11_count_1 (by rw [sw]; rfl) (by rw [sw]; decide) ?_
    rw [if_neg (fun q => by rw [q] at sw; revert sw; decide)] at w
    rw [if_neg (fun q => by rw [q] at sw; revert sw; decide)] at w
    rw [if_neg (fun q => by rw [q] at sw; revert sw; decide)] at w
    rw [if_neg (fun q => by rw [q] at sw; revert sw; decide)] at w
    rw [if_pos sv] at w
    refine w_aload_n dX11_count_101 rfl ?_
    obtain ⟨e1, w⟩ := w
    refine w_getp dX11_count_102 lk_RX11_50 e1 rfl ?_
    obtain ⟨e2, w⟩ := w
    refine w_callV (As := []) (st := []) dX11_count_105 mt_X0_itemsOnFloor g_1034 g_1035 g_1036 rfl e2 rfl rfl (Nat.le_of_ble_eq_true rfl) (Nat.le_refl _) ⟨Nat.le_refl _, Nat.le_refl _⟩ w ?_
    rintro v h2 ⟨r1, rfl, w⟩
    exact w_ireturn dX11_count_108 rfl rfl ⟨Nat.le_refl _, Nat.le_refl _⟩ w
  · have sv : (l1 : Int32) = 5 := Int32.toInt_inj.mp (sw.trans (by decide))
    refine w_tsw (tgt := 109) dX11_count_1 (by rw [sw]; rfl) (by rw [sw]; decide) ?_
    rw [if_neg (fun q => by rw [q] at sw; revert sw; decide)] at w
    rw [if_neg (fun q => by rw [q] at sw; revert sw; decide)] at w
    rw [if_neg (fun q => by rw [q] at sw; revert sw; decide)] at w
    rw [if_neg (fun q => by rw [q] at sw; revert sw; decide)] at w
    rw [if_neg (fun q => by rw [q] at sw; revert sw; decide)] at w
    rw [if_pos sv] at w
    refine w_aload_n dX11_count_109 rfl ?_
    obtain ⟨e1, w⟩ := w
    refine w_getp dX11_count_110 lk_RX11_50 e1 rfl ?_
    obtain ⟨e2, w⟩ := w
    refine w_callV (As := []) (st := []) dX11_count_113 mt_X0_raisedInAll g_1038 g_1039 g_1040 rfl e2 rfl rfl (Nat.le_of_ble_eq_true rfl) (Nat.le_refl _) ⟨Nat.le_refl _, Nat.le_refl _⟩ w ?_
    rintro v h4 ⟨r3, rfl, w⟩
    exact w_ireturn dX11_count_116 rfl rfl ⟨Nat.le_refl _, Nat.le_refl _⟩ w
  · have sv : (l1 : Int32) = 6 := Int32.toInt_inj.mp (sw.trans (by decide))
    refine w_tsw (tgt := 117) dX11_count_1 (by rw [sw]; rfl) (by rw [sw]; decide) ?_
    rw [if_neg (fun q => by rw [q] at sw; revert sw; decide)] at w
    rw [if_neg (fun q => by rw [q] at sw; revert sw; decide)] at w
    rw [if_neg (fun q => by rw [q] at sw; revert sw; decide)] at w
    rw [if_neg (fun q => by rw [q] at sw; revert sw; decide)] at w
    rw [if_neg (fun q => by rw [q] at sw; revert sw; decide)] at w
    rw [if_neg (fun q => by rw [q] at sw; revert sw; decide)] at w
    rw [if_pos sv] at w
    refine w_aload_n dX11_count_117 rfl ?_
    obtain ⟨e1, w⟩ := w
    refine w_geti dX11_count_118 lk_RX11_74 e1 rfl ?_
    exact w_ireturn dX11_count_121 rfl rfl ⟨Nat.le_refl _, Nat.le_refl _⟩ w
  · have sv : (l1 : Int32) = 7 := Int32.toInt_inj.mp (sw.trans (by decide))
    refine w_tsw (tgt := 122) dX11_count_1 (by rw [sw]; rfl) (by rw [sw]; decide) ?_
    rw [if_neg (fun q => by rw [q] at sw; revert sw; decide)] at w
    rw [if_neg (fun q => by rw [q] at sw; revert sw; decide)] at w
    rw [if_neg (fun q => by rw [q] at sw; revert sw; decide)] at w
    rw [if_neg (fun q => by rw [q] at sw; revert sw; decide)] at w
    rw [if_neg (fun q => by rw [q] at sw; revert sw; decide)] at w
    rw [if_neg (fun q => by rw [q] at sw; revert sw; decide)] at w
    rw [if_neg (fun q => by rw [q] at sw; revert sw; decide)] at w
    rw [if_pos sv] at w
    refine w_aload_n dX11_count_122 rfl ?_
    obtain ⟨e1, w⟩ := w
    refine w_getp dX11_count_123 lk_RX11_29 e1 rfl ?_
    obtain ⟨e2, w⟩ := w
    refine w_geti dX11_count_126 lk_RX11_113 e2 rfl ?_
    exact w_ireturn dX11_count_129 rfl rfl ⟨Nat.le_refl _, Nat.le_refl _⟩ w
  · have sv : (l1 : Int32) = 8 := Int32.toInt_inj.mp (sw.trans (by decide))
    refine w_tsw (tgt := 130) dX11_count_1 (by rw [sw]; rfl) (by rw [sw]; decide) ?_
    rw [if_neg (fun q => by rw [q] at sw; revert sw; decide)] at w
    rw [if_neg (fun q => by rw [q] at sw; revert sw; decide)] at w
    rw [if_neg (fun q => by rw [q] at sw; revert sw; decide)] at w
    rw [if_neg (fun q => by rw [q] at sw; revert sw; decide)] at w
    rw [if_neg (fun q => by rw [q] at sw; revert sw; decide)] at w
    rw [if_neg (fun q => by rw [q] at sw; revert sw; decide)] at w
    rw [if_neg (fun q => by rw [q] at sw; revert sw; decide)] at w
    rw [if_neg (fun q => by rw [q] at sw; revert sw; decide)] at w
    rw [if_pos sv] at w
    refine w_aload_n dX11_count_130 rfl ?_
    obtain ⟨e1, w⟩ := w
    refine w_geti dX11_count_131 lk_RX11_70 e1 rfl ?_
    exact w_ireturn dX11_count_134 rfl rfl ⟨Nat.le_refl _, Nat.le_refl _⟩ w
  · have sv : (l1 : Int32) = 9 := Int32.toInt_inj.mp (sw.trans (by decide))
    refine w_tsw (tgt := 135) dX11_count_1 (by rw [sw]; rfl) (by rw [sw]; decide) ?_
    rw [if_neg (fun q => by rw [q] at sw; revert sw; decide)] at w
    rw [if_neg (fun q => by rw [q] at sw; revert sw; decide)] at w
    rw [if_neg (fun q => by rw [q] at sw; revert sw; decide)] at w
    rw [if_neg (fun q => by rw [q] at sw; revert sw; decide)] at w
    rw [if_neg (fun q => by rw [q] at sw; revert sw; decide)] at w
    rw [if_neg (fun q => by rw [q] at sw; revert sw; decide)] at w
    rw [if_neg (fun q => by rw [q] at sw; revert sw; decide)] at w
    rw [if_neg (fun q => by rw [q] at sw; revert sw; decide)] at w
    rw [if_neg (fun q => by rw [q] at sw; revert sw; decide)] at w
    rw [if_pos sv] at w
    refine w_aload_n dX11_count_135 rfl ?_
    obtain ⟨e1, w⟩ := w
    refine w_geti dX11_count_136 lk_RX11_84 e1 rfl ?_
    exact w_ireturn dX11_count_139 rfl rfl ⟨Nat.le_refl _, Nat.le_refl _⟩ w
  · have sv : (l1 : Int32) = 10 := Int32.toInt_inj.mp (sw.trans (by decide))
    refine w_tsw (tgt := 140) dX11_count_1 (by rw [sw]; rfl) (by rw [sw]; decide) ?_
    rw [if_neg (fun q => by rw [q] at sw; revert sw; decide)] at w
    rw [if_neg (fun q => by rw [q] at sw; revert sw; decide)] at w
    rw [if_neg (fun q => by rw [q] at sw; revert sw; decide)] at w
    rw [if_neg (fun q => by rw [q] at sw; revert sw; decide)] at w
    rw [if_neg (fun q => by rw [q] at sw; revert sw; decide)] at w
    rw [if_neg (fun q => by rw [q] at sw; revert sw; decide)] at w
    rw [if_neg (fun q => by rw [q] at sw; revert sw; decide)] at w
    rw [if_neg (fun q => by rw [q] at sw; revert sw; decide)] at w
    rw [if_neg (fun q => by rw [q] at sw; revert sw; decide)] at w
    rw [if_neg (fun q => by rw [q] at sw; revert sw; decide)] at w
    rw [if_pos sv] at w
    refine w_aload_n dX11_count_140 rfl ?_
    obtain ⟨e1, w⟩ := w
    refine w_getp dX11_count_141 lk_RX11_10 e1 rfl ?_
    obtain ⟨e2, w⟩ := w
    refine w_geti dX11_count_144 lk_RX11_100 e2 rfl ?_
    exact w_ireturn dX11_count_147 rfl rfl ⟨Nat.le_refl _, Nat.le_refl _⟩ w
set_option maxRecDepth 20000 in
set_option maxHeartbeats 4000000 in
theorem x_X11_isHeap {G : pm_G} {d : Nat} {post : pm_PT} {h : pm_H} {l0 : Nat} {l1 : Int32} (w :
    if l1 < 0 then (
      post (some (.int 0)) h
    ) else (
      (h.1[l0]? = some (0, 10)) ∧
      (h.1[gp h l0 1]? = some (0, 4)) ∧
      (h.1[gp h (gp h l0 1) 0]? = some (0, 3)) ∧
      if (gi h (gp h (gp h l0 1) 0) 1) ≤ l1 then (
        post (some (.int 0)) h
      ) else (
        post (some (.int 1)) h
      )
    )) :
    Wp G (m_X11_isHeap, d + 1, 0, 0, post) (0, 0) 0 [.ref l0, .int l1] [] h := by
  refine w_iload_n dX11_isHeap_0 rfl ?_
  refine w_if_lt (tgt := 22) dX11_isHeap_1 rfl (fun c => ?_) (fun c => ?_)
  · rw [if_pos c] at w
    refine w_iconst (v := 0) dX11_isHeap_22 rfl ?_
    exact w_ireturn dX11_isHeap_23 rfl rfl ⟨Nat.le_refl _, Nat.le_refl _⟩ w
  · rw [if_neg c] at w
    refine w_iload_n dX11_isHeap_4 rfl ?_
    refine w_aload_n dX11_isHeap_5 rfl ?_
    obtain ⟨e1, w⟩ := w
    refine w_getp dX11_isHeap_6 lk_RX11_19 e1 rfl ?_
    obtain ⟨e2, w⟩ := w
    refine w_getp dX11_isHeap_9 lk_RX11_313 e2 rfl ?_
    obtain ⟨e3, w⟩ := w
    refine w_geti dX11_isHeap_12 lk_RX11_317 e3 rfl ?_
    refine w_ic_ge (tgt := 22) dX11_isHeap_15 rfl (fun c => ?_) (fun c => ?_)
    · rw [if_pos c] at w
      refine w_iconst (v := 0) dX11_isHeap_22 rfl ?_
      exact w_ireturn dX11_isHeap_23 rfl rfl ⟨Nat.le_refl _, Nat.le_refl _⟩ w
    · rw [if_neg c] at w
      refine w_iconst (v := 1) dX11_isHeap_18 rfl ?_
      refine w_goto (tgt := 23) dX11_isHeap_19 rfl ?_
      exact w_ireturn dX11_isHeap_23 rfl rfl ⟨Nat.le_refl _, Nat.le_refl _⟩ w
set_option maxRecDepth 20000 in
set_option maxHeartbeats 4000000 in
theorem x_X11_isShelf {G : pm_G} {d : Nat} {post : pm_PT} {h : pm_H} {l0 : Nat} {l1 : Int32} (w :
    if l1 < 0 then (
      post (some (.int 0)) h
    ) else (
      (h.1[l0]? = some (0, 10)) ∧
      (h.1[gp h l0 1]? = some (0, 4)) ∧
      (h.1[gp h (gp h l0 1) 1]? = some (0, 3)) ∧
      if (gi h (gp h (gp h l0 1) 1) 1) ≤ l1 then (
        post (some (.int 0)) h
      ) else (
        post (some (.int 1)) h
      )
    )) :
    Wp G (m_X11_isShelf, d + 1, 0, 0, post) (0, 0) 0 [.ref l0, .int l1] [] h := by
  refine w_iload_n dX11_isShelf_0 rfl ?_
  refine w_if_lt (tgt := 22) dX11_isShelf_1 rfl (fun c => ?_) (fun c => ?_)
  · rw [if_pos c] at w
    refine w_iconst (v := 0) dX11_isShelf_22 rfl ?_
    exact w_ireturn dX11_isShelf_23 rfl rfl ⟨Nat.le_refl _, Nat.le_refl _⟩ w
  · rw [if_neg c] at w
    refine w_iload_n dX11_isShelf_4 rfl ?_
    refine w_aload_n dX11_isShelf_5 rfl ?_
    obtain ⟨e1, w⟩ := w
    refine w_getp dX11_isShelf_6 lk_RX11_19 e1 rfl ?_
    obtain ⟨e2, w⟩ := w
    refine w_getp dX11_isShelf_9 lk_RX11_320 e2 rfl ?_
    obtain ⟨e3, w⟩ := w
    refine w_geti dX11_isShelf_12 lk_RX11_317 e3 rfl ?_
    refine w_ic_ge (tgt := 22) dX11_isShelf_15 rfl (fun c => ?_) (fun c => ?_)
    · rw [if_pos c] at w
      refine w_iconst (v := 0) dX11_isShelf_22 rfl ?_
      exact w_ireturn dX11_isShelf_23 rfl rfl ⟨Nat.le_refl _, Nat.le_refl _⟩ w
    · rw [if_neg c] at w
      refine w_iconst (v := 1) dX11_isShelf_18 rfl ?_
      refine w_goto (tgt := 23) dX11_isShelf_19 rfl ?_
      exact w_ireturn dX11_isShelf_23 rfl rfl ⟨Nat.le_refl _, Nat.le_refl _⟩ w
set_option maxRecDepth 20000 in
set_option maxHeartbeats 4000000 in
theorem x_X11_isItem {G : pm_G} {d : Nat} {post : pm_PT} {h : pm_H} {l0 : Nat} {l1 : Int32} (w :
    if l1 < 0 then (
      post (some (.int 0)) h
    ) else (
      (h.1[l0]? = some (0, 10)) ∧
      (h.1[gp h l0 1]? = some (0, 4)) ∧
      (h.1[gp h (gp h l0 1) 2]? = some (0, 3)) ∧
      if (gi h (gp h (gp h l0 1) 2) 1) ≤ l1 then (
        post (some (.int 0)) h
      ) else (
        post (some (.int 1)) h
      )
    )) :
    Wp G (m_X11_isItem, d + 1, 0, 0, post) (0, 0) 0 [.ref l0, .int l1] [] h := by
  refine w_iload_n dX11_isItem_0 rfl ?_
  refine w_if_lt (tgt := 22) dX11_isItem_1 rfl (fun c => ?_) (fun c => ?_)
  · rw [if_pos c] at w
    refine w_iconst (v := 0) dX11_isItem_22 rfl ?_
    exact w_ireturn dX11_isItem_23 rfl rfl ⟨Nat.le_refl _, Nat.le_refl _⟩ w
  · rw [if_neg c] at w
    refine w_iload_n dX11_isItem_4 rfl ?_
    refine w_aload_n dX11_isItem_5 rfl ?_
    obtain ⟨e1, w⟩ := w
    refine w_getp dX11_isItem_6 lk_RX11_19 e1 rfl ?_
    obtain ⟨e2, w⟩ := w
    refine w_getp dX11_isItem_9 lk_RX11_323 e2 rfl ?_
    obtain ⟨e3, w⟩ := w
    refine w_geti dX11_isItem_12 lk_RX11_317 e3 rfl ?_
    refine w_ic_ge (tgt := 22) dX11_isItem_15 rfl (fun c => ?_) (fun c => ?_)
    · rw [if_pos c] at w
      refine w_iconst (v := 0) dX11_isItem_22 rfl ?_
      exact w_ireturn dX11_isItem_23 rfl rfl ⟨Nat.le_refl _, Nat.le_refl _⟩ w
    · rw [if_neg c] at w
      refine w_iconst (v := 1) dX11_isItem_18 rfl ?_
      refine w_goto (tgt := 23) dX11_isItem_19 rfl ?_
      exact w_ireturn dX11_isItem_23 rfl rfl ⟨Nat.le_refl _, Nat.le_refl _⟩ w
set_option maxRecDepth 20000 in
set_option maxHeartbeats 4000000 in
theorem x_X11_shutHeap {G : pm_G} {d : Nat} {post : pm_PT} {h : pm_H} {l0 : Nat} {l1 : Int32} (w :
    (h.1[l0]? = some (0, 10)) ∧
    ci G d m_X11_isHeap [.ref l0, .int l1] h fun r1 h2 =>
    if r1 = 0 then (
      post (some (.int 0)) h2
    ) else (
      (h2.1[l0]? = some (0, 10)) ∧
      ∀ h3 : pm_H, h3 = si h2 l0 10 ((gi h2 l0 10) + 1) →
      post (some (.int 1)) h3
    )) :
    Wp G (m_X11_shutHeap, d + 1, 0, 0, post) (0, 0) 0 [.ref l0, .int l1] [] h := by
  refine w_aload_n dX11_shutHeap_0 rfl ?_
  refine w_iload_n dX11_shutHeap_1 rfl ?_
  obtain ⟨e1, w⟩ := w
  refine w_callV (As := [.int l1]) (st := []) dX11_shutHeap_2 mt_X11_isHeap g_901 g_903 g_34 rfl e1 rfl rfl (Nat.le_of_ble_eq_true rfl) (Nat.le_refl _) ⟨Nat.le_refl _, Nat.le_refl _⟩ w ?_
  rintro v h2 ⟨r1, rfl, w⟩
  refine w_if_ne (tgt := 10) dX11_shutHeap_5 rfl (fun c => ?_) (fun c => ?_)
  · rw [if_neg c] at w
    refine w_aload_n dX11_shutHeap_10 rfl ?_
    refine w_dup dX11_shutHeap_11 rfl ?_
    obtain ⟨e1, w⟩ := w
    refine w_geti dX11_shutHeap_12 lk_RX11_74 e1 rfl ?_
    refine w_iconst (v := 1) dX11_shutHeap_15 rfl ?_
    refine w_iadd dX11_shutHeap_16 ?_
    refine w_puti dX11_shutHeap_17 lk_RX11_74 e1 rfl (Or.inl rfl) ?_
    have w := w _ rfl
    refine w_iconst (v := 1) dX11_shutHeap_20 rfl ?_
    exact w_ireturn dX11_shutHeap_21 rfl rfl ⟨Nat.le_refl _, Nat.le_refl _⟩ w
  · rw [if_pos c] at w
    refine w_iconst (v := 0) dX11_shutHeap_8 rfl ?_
    exact w_ireturn dX11_shutHeap_9 rfl rfl ⟨Nat.le_refl _, Nat.le_refl _⟩ w
set_option maxRecDepth 20000 in
set_option maxHeartbeats 4000000 in
theorem x_X11_remember {G : pm_G} {d : Nat} {post : pm_PT} {h : pm_H} {l0 : Nat} (w :
    (h.1[l0]? = some (0, 10)) ∧
    ∀ h1 : pm_H, h1 = si h l0 12 (((gi h l0 12) + 1) - ((gi h l0 12) + 1) / 8 * 8) →
    cp G d m_X11_forestAt [.ref l0, .ref (gp h1 l0 11), .int (gi h1 l0 12)] h1 fun r2 h3 =>
    (h3.1[l0]? = some (0, 10)) ∧
    (h3.1[r2]? = some (0, 0)) ∧
    cv G d m_X0_copyFrom [.ref r2, .ref (gp h3 l0 6)] h3 fun h5 =>
    (h5.1[l0]? = some (0, 10)) ∧
    ci G d m_J9_min_7cf53 [.int ((gi h5 l0 13) + 1), .int 8] h5 fun r6 h7 =>
    (h7.1[l0]? = some (0, 10)) ∧
    ∀ h8 : pm_H, h8 = si h7 l0 13 r6 →
    post none h8) :
    Wp G (m_X11_remember, d + 1, 0, 0, post) (0, 0) 0 [.ref l0] [] h := by
  refine w_aload_n dX11_remember_0 rfl ?_
  refine w_aload_n dX11_remember_1 rfl ?_
  obtain ⟨e1, w⟩ := w
  refine w_geti dX11_remember_2 lk_RX11_81 e1 rfl ?_
  refine w_iconst (v := 1) dX11_remember_5 rfl ?_
  refine w_iadd dX11_remember_6 ?_
  refine w_bipush (v := 8) dX11_remember_7 rfl ?_
  refine w_irem dX11_remember_9 (by decide) ?_
  refine w_puti dX11_remember_10 lk_RX11_81 e1 rfl (Or.inl rfl) ?_
  have w := w _ rfl
  refine w_aload_n dX11_remember_13 rfl ?_
  refine w_aload_n dX11_remember_14 rfl ?_
  refine w_getp dX11_remember_15 lk_RX11_77 e1 rfl ?_
  refine w_aload_n dX11_remember_18 rfl ?_
  refine w_geti dX11_remember_19 lk_RX11_81 e1 rfl ?_
  refine w_callV (As := [.ref (gp (si h l0 12 (((gi h l0 12) + 1) - ((gi h l0 12) + 1) / 8 * 8)) l0 11), .int (gi (si h l0 12 (((gi h l0 12) + 1) - ((gi h l0 12) + 1) / 8 * 8)) l0 12)]) (st := []) dX11_remember_22 mt_X11_forestAt g_968 g_970 g_38 rfl e1 rfl rfl (Nat.le_of_ble_eq_true rfl) (Nat.le_refl _) ⟨Nat.le_refl _, Nat.le_refl _⟩ w ?_
  rintro v h3 ⟨r2, rfl, w⟩
  refine w_aload_n dX11_remember_25 rfl ?_
  obtain ⟨e1, w⟩ := w
  refine w_getp dX11_remember_26 lk_RX11_50 e1 rfl ?_
  obtain ⟨e2, w⟩ := w
  refine w_callV (As := [.ref (gp h3 l0 6)]) (st := []) dX11_remember_29 mt_X0_copyFrom g_972 g_973 g_974 rfl e2 rfl rfl (Nat.le_of_ble_eq_true rfl) (Nat.le_refl _) ⟨Nat.le_refl _, Nat.le_refl _⟩ w ?_
  rintro v h5 ⟨rfl, w⟩
  refine w_aload_n dX11_remember_32 rfl ?_
  refine w_aload_n dX11_remember_33 rfl ?_
  obtain ⟨e1, w⟩ := w
  refine w_geti dX11_remember_34 lk_RX11_84 e1 rfl ?_
  refine w_iconst (v := 1) dX11_remember_37 rfl ?_
  refine w_iadd dX11_remember_38 ?_
  refine w_bipush (v := 8) dX11_remember_39 rfl ?_
  refine w_callS (As := [.int ((gi h5 l0 13) + 1), .int 8]) (st := [.ref l0]) dX11_remember_41 mt_J9_min_7cf53 g_977 g_736 rfl rfl (Nat.le_of_ble_eq_true rfl) (Nat.le_refl _) ⟨Nat.le_refl _, Nat.le_refl _⟩ w ?_
  rintro v h7 ⟨r6, rfl, w⟩
  obtain ⟨e1, w⟩ := w
  refine w_puti dX11_remember_44 lk_RX11_84 e1 rfl (Or.inl rfl) ?_
  have w := w _ rfl
  exact w_return dX11_remember_47 rfl ⟨Nat.le_refl _, Nat.le_refl _⟩ w
set_option maxRecDepth 20000 in
set_option maxHeartbeats 4000000 in
theorem x_X11_forestAt {G : pm_G} {d : Nat} {post : pm_PT} {h : pm_H} {l0 : Nat} {l1 : Nat} {l2 : Int32} (w :
    if l2 < 0 then (
      (h.1[l0]? = some (0, 10)) ∧
      ((gp h l0 6) < h.1.length) ∧
      post (some (.ref (gp h l0 6))) h
    ) else (
      ∃ n1 : Nat, h.1[l1]? = some (6, n1) ∧
      if (Int32.ofNat n1) ≤ l2 then (
        (h.1[l0]? = some (0, 10)) ∧
        ((gp h l0 6) < h.1.length) ∧
        post (some (.ref (gp h l0 6))) h
      ) else (
        (vp_in l2 n1) ∧
        ((gp h l1 (l2 : Int32).toNatClampNeg) < h.1.length) ∧
        post (some (.ref (gp h l1 (l2 : Int32).toNatClampNeg))) h
      )
    )) :
    Wp G (m_X11_forestAt, d + 1, 0, 0, post) (0, 0) 0 [.ref l0, .ref l1, .int l2, .null] [] h := by
  refine w_iload_n dX11_forestAt_0 rfl ?_
  refine w_if_lt (tgt := 16) dX11_forestAt_1 rfl (fun c => ?_) (fun c => ?_)
  · rw [if_pos c] at w
    refine w_aload_n dX11_forestAt_16 rfl ?_
    obtain ⟨e1, w⟩ := w
    refine w_getp dX11_forestAt_17 lk_RX11_50 e1 rfl ?_
    refine v_astore_n (l' := [.ref l0, .ref l1, .int l2, .ref (gp h l0 6)]) dX11_forestAt_20 (Nat.le_of_ble_eq_true rfl) rfl ?_
    refine w_aload_n dX11_forestAt_21 rfl ?_
    obtain ⟨e2, w⟩ := w
    refine w_ifnonnull (tgt := 32) dX11_forestAt_22 rfl e2 ?_
    refine w_aload_n dX11_forestAt_32 rfl ?_
    exact w_areturn dX11_forestAt_33 rfl ⟨Nat.le_refl _, Nat.le_refl _⟩ w
  · rw [if_neg c] at w
    refine w_iload_n dX11_forestAt_4 rfl ?_
    refine w_aload_n dX11_forestAt_5 rfl ?_
    obtain ⟨n1, ln1, w⟩ := w
    refine w_alen dX11_forestAt_6 ln1 (by decide) rfl ?_
    refine w_ic_ge (tgt := 16) dX11_forestAt_7 rfl (fun c => ?_) (fun c => ?_)
    · rw [if_pos c] at w
      refine w_aload_n dX11_forestAt_16 rfl ?_
      obtain ⟨e2, w⟩ := w
      refine w_getp dX11_forestAt_17 lk_RX11_50 e2 rfl ?_
      refine v_astore_n (l' := [.ref l0, .ref l1, .int l2, .ref (gp h l0 6)]) dX11_forestAt_20 (Nat.le_of_ble_eq_true rfl) rfl ?_
      refine w_aload_n dX11_forestAt_21 rfl ?_
      obtain ⟨e3, w⟩ := w
      refine w_ifnonnull (tgt := 32) dX11_forestAt_22 rfl e3 ?_
      refine w_aload_n dX11_forestAt_32 rfl ?_
      exact w_areturn dX11_forestAt_33 rfl ⟨Nat.le_refl _, Nat.le_refl _⟩ w
    · rw [if_neg c] at w
      refine w_aload_n dX11_forestAt_10 rfl ?_
      refine w_iload_n dX11_forestAt_11 rfl ?_
      obtain ⟨e2, w⟩ := w
      refine w_aald dX11_forestAt_12 ln1 e2 ?_
      refine w_goto (tgt := 20) dX11_forestAt_13 rfl ?_
      refine v_astore_n (l' := [.ref l0, .ref l1, .int l2, .ref (gp h l1 (l2 : Int32).toNatClampNeg)]) dX11_forestAt_20 (Nat.le_of_ble_eq_true rfl) rfl ?_
      refine w_aload_n dX11_forestAt_21 rfl ?_
      obtain ⟨e3, w⟩ := w
      refine w_ifnonnull (tgt := 32) dX11_forestAt_22 rfl e3 ?_
      refine w_aload_n dX11_forestAt_32 rfl ?_
      exact w_areturn dX11_forestAt_33 rfl ⟨Nat.le_refl _, Nat.le_refl _⟩ w
set_option maxRecDepth 20000 in
set_option maxHeartbeats 4000000 in
theorem x_X11_bitsOf {G : pm_G} {d : Nat} {post : pm_PT} {h : pm_H} {l0 : UInt32} (w :
    if 0 < (Op.cmpValue (FP.fcmp l0 FP.fconst0) .g) then (
      Wp G (m_X11_bitsOf, d + 1, 0, 0, post) (0, 0) 15 [.null, .float l0, .int 127, .int 0] [] h
    ) else (
      post (some (.int 0)) h
    )) :
    Wp G (m_X11_bitsOf, d + 1, 0, 0, post) (0, 0) 0 [.float l0, .null, .null, .null] [] h := by
  refine w_fload_n dX11_bitsOf_0 rfl ?_
  refine w_fconst0 dX11_bitsOf_1 ?_
  refine w_fcmp dX11_bitsOf_2 ?_
  refine w_if_gt (tgt := 8) dX11_bitsOf_3 rfl (fun c => ?_) (fun c => ?_)
  · rw [if_pos c] at w
    refine w_fload_n dX11_bitsOf_8 rfl ?_
    refine v_fstore_n (l' := [.float l0, .float l0, .null, .null]) dX11_bitsOf_9 (Nat.le_of_ble_eq_true rfl) rfl ?_
    refine w_bipush (v := 127) dX11_bitsOf_10 rfl ?_
    refine v_istore_n (l' := [.float l0, .float l0, .int 127, .null]) dX11_bitsOf_12 (Nat.le_of_ble_eq_true rfl) rfl ?_
    refine w_iconst (v := 0) dX11_bitsOf_13 rfl ?_
    refine v_istore_n (l' := [.float l0, .float l0, .int 127, .int 0]) dX11_bitsOf_14 (Nat.le_of_ble_eq_true rfl) rfl ?_
    exact w_drop (l' := [.null, .float l0, .int 127, .int 0]) ⟨Or.inl rfl, Or.inr rfl, Or.inr rfl, Or.inr rfl, trivial⟩ w
  · rw [if_neg c] at w
    refine w_iconst (v := 0) dX11_bitsOf_6 rfl ?_
    exact w_ireturn dX11_bitsOf_7 rfl rfl ⟨Nat.le_refl _, Nat.le_refl _⟩ w
set_option maxRecDepth 20000 in
set_option maxHeartbeats 4000000 in
theorem x_X11_bitsOf_15 {G : pm_G} {d : Nat} {post : pm_PT} {h : pm_H} {l1 : UInt32} {l2 : Int32} {l3 : Int32} (w :
    if 127 ≤ l3 then (
      Wp G (m_X11_bitsOf, d + 1, 0, 0, post) (0, 0) 42 [.null, .float l1, .int l2, .int 0] [] h
    ) else (
      if (Op.cmpValue (FP.fcmp l1 FP.fconst2) .l) < 0 then (
        Wp G (m_X11_bitsOf, d + 1, 0, 0, post) (0, 0) 42 [.null, .float l1, .int l2, .int 0] [] h
      ) else (
        (vf_n32 (FP.fdiv l1 FP.fconst2)) ∧
        Wp G (m_X11_bitsOf, d + 1, 0, 0, post) (0, 0) 15 [.null, .float (FP.fdiv l1 FP.fconst2), .int (l2 + 1), .int (l3 + 1)] [] h
      )
    )) :
    Wp G (m_X11_bitsOf, d + 1, 0, 0, post) (0, 0) 15 [.null, .float l1, .int l2, .int l3] [] h := by
  refine w_iload_n dX11_bitsOf_15 rfl ?_
  refine w_bipush (v := 127) dX11_bitsOf_16 rfl ?_
  refine w_ic_ge (tgt := 40) dX11_bitsOf_18 rfl (fun c => ?_) (fun c => ?_)
  · rw [if_pos c] at w
    refine w_iconst (v := 0) dX11_bitsOf_40 rfl ?_
    refine v_istore_n (l' := [.null, .float l1, .int l2, .int 0]) dX11_bitsOf_41 (Nat.le_of_ble_eq_true rfl) rfl ?_
    exact w
  · rw [if_neg c] at w
    refine w_fload_n dX11_bitsOf_21 rfl ?_
    refine w_fconst2 dX11_bitsOf_22 ?_
    refine w_fcmp dX11_bitsOf_23 ?_
    refine w_if_lt (tgt := 40) dX11_bitsOf_24 rfl (fun c => ?_) (fun c => ?_)
    · rw [if_pos c] at w
      refine w_iconst (v := 0) dX11_bitsOf_40 rfl ?_
      refine v_istore_n (l' := [.null, .float l1, .int l2, .int 0]) dX11_bitsOf_41 (Nat.le_of_ble_eq_true rfl) rfl ?_
      exact w
    · rw [if_neg c] at w
      refine w_fload_n dX11_bitsOf_27 rfl ?_
      refine w_fconst2 dX11_bitsOf_28 ?_
      obtain ⟨e1, w⟩ := w
      refine w_fdiv dX11_bitsOf_29 e1 ?_
      refine v_fstore_n (l' := [.null, .float (FP.fdiv l1 FP.fconst2), .int l2, .int l3]) dX11_bitsOf_30 (Nat.le_of_ble_eq_true rfl) rfl ?_
      refine v_iinc (l' := [.null, .float (FP.fdiv l1 FP.fconst2), .int (l2 + 1), .int l3]) (v := l2 + 1) dX11_bitsOf_31 rfl rfl (Nat.le_of_ble_eq_true rfl) rfl ?_
      refine v_iinc (l' := [.null, .float (FP.fdiv l1 FP.fconst2), .int (l2 + 1), .int (l3 + 1)]) (v := l3 + 1) dX11_bitsOf_34 rfl rfl (Nat.le_of_ble_eq_true rfl) rfl ?_
      refine w_goto (tgt := 15) dX11_bitsOf_37 rfl ?_
      exact w
set_option maxRecDepth 20000 in
set_option maxHeartbeats 4000000 in
theorem x_X11_bitsOf_42 {G : pm_G} {d : Nat} {post : pm_PT} {h : pm_H} {l1 : UInt32} {l2 : Int32} {l3 : Int32} (w :
    if 126 ≤ l3 then (
      (vf_n32 (FP.fsub l1 FP.fconst1)) ∧
      (vf_n32 (FP.fmul (FP.fsub l1 FP.fconst1) 1258291200)) ∧
      post (some (.int ((l2 <<< (23 &&& 31)) + (FP.f2i (FP.fmul (FP.fsub l1 FP.fconst1) 1258291200))))) h
    ) else (
      if 0 ≤ (Op.cmpValue (FP.fcmp l1 FP.fconst1) .g) then (
        (vf_n32 (FP.fsub l1 FP.fconst1)) ∧
        (vf_n32 (FP.fmul (FP.fsub l1 FP.fconst1) 1258291200)) ∧
        post (some (.int ((l2 <<< (23 &&& 31)) + (FP.f2i (FP.fmul (FP.fsub l1 FP.fconst1) 1258291200))))) h
      ) else (
        (vf_n32 (FP.fmul l1 FP.fconst2)) ∧
        Wp G (m_X11_bitsOf, d + 1, 0, 0, post) (0, 0) 42 [.null, .float (FP.fmul l1 FP.fconst2), .int (l2 + (-1)), .int (l3 + 1)] [] h
      )
    )) :
    Wp G (m_X11_bitsOf, d + 1, 0, 0, post) (0, 0) 42 [.null, .float l1, .int l2, .int l3] [] h := by
  refine w_iload_n dX11_bitsOf_42 rfl ?_
  refine w_bipush (v := 126) dX11_bitsOf_43 rfl ?_
  refine w_ic_ge (tgt := 67) dX11_bitsOf_45 rfl (fun c => ?_) (fun c => ?_)
  · rw [if_pos c] at w
    refine w_iload_n dX11_bitsOf_67 rfl ?_
    refine w_bipush (v := 23) dX11_bitsOf_68 rfl ?_
    refine w_ishl dX11_bitsOf_70 ?_
    refine w_fload_n dX11_bitsOf_71 rfl ?_
    refine w_fconst1 dX11_bitsOf_72 ?_
    obtain ⟨e1, w⟩ := w
    refine w_fsub dX11_bitsOf_73 e1 ?_
    refine w_ldcw_f (v := 1258291200) dX11_bitsOf_74 g_931 ?_
    obtain ⟨e2, w⟩ := w
    refine w_fmul dX11_bitsOf_77 e2 ?_
    refine w_f2i dX11_bitsOf_78 ?_
    refine w_iadd dX11_bitsOf_79 ?_
    exact w_ireturn dX11_bitsOf_80 rfl rfl ⟨Nat.le_refl _, Nat.le_refl _⟩ w
  · rw [if_neg c] at w
    refine w_fload_n dX11_bitsOf_48 rfl ?_
    refine w_fconst1 dX11_bitsOf_49 ?_
    refine w_fcmp dX11_bitsOf_50 ?_
    refine w_if_ge (tgt := 67) dX11_bitsOf_51 rfl (fun c => ?_) (fun c => ?_)
    · rw [if_pos c] at w
      refine w_iload_n dX11_bitsOf_67 rfl ?_
      refine w_bipush (v := 23) dX11_bitsOf_68 rfl ?_
      refine w_ishl dX11_bitsOf_70 ?_
      refine w_fload_n dX11_bitsOf_71 rfl ?_
      refine w_fconst1 dX11_bitsOf_72 ?_
      obtain ⟨e1, w⟩ := w
      refine w_fsub dX11_bitsOf_73 e1 ?_
      refine w_ldcw_f (v := 1258291200) dX11_bitsOf_74 g_931 ?_
      obtain ⟨e2, w⟩ := w
      refine w_fmul dX11_bitsOf_77 e2 ?_
      refine w_f2i dX11_bitsOf_78 ?_
      refine w_iadd dX11_bitsOf_79 ?_
      exact w_ireturn dX11_bitsOf_80 rfl rfl ⟨Nat.le_refl _, Nat.le_refl _⟩ w
    · rw [if_neg c] at w
      refine w_fload_n dX11_bitsOf_54 rfl ?_
      refine w_fconst2 dX11_bitsOf_55 ?_
      obtain ⟨e1, w⟩ := w
      refine w_fmul dX11_bitsOf_56 e1 ?_
      refine v_fstore_n (l' := [.null, .float (FP.fmul l1 FP.fconst2), .int l2, .int l3]) dX11_bitsOf_57 (Nat.le_of_ble_eq_true rfl) rfl ?_
      refine v_iinc (l' := [.null, .float (FP.fmul l1 FP.fconst2), .int (l2 + (-1)), .int l3]) (v := l2 + (-1)) dX11_bitsOf_58 rfl rfl (Nat.le_of_ble_eq_true rfl) rfl ?_
      refine v_iinc (l' := [.null, .float (FP.fmul l1 FP.fconst2), .int (l2 + (-1)), .int (l3 + 1)]) (v := l3 + 1) dX11_bitsOf_61 rfl rfl (Nat.le_of_ble_eq_true rfl) rfl ?_
      refine w_goto (tgt := 42) dX11_bitsOf_64 rfl ?_
      exact w
