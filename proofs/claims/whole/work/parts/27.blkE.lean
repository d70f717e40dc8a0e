set_option linter.all false
set_option maxRecDepth 20000 in
set_option maxHeartbeats 4000000 in
theorem x_X12_thrown {G : pm_G} {d : Nat} {post : pm_PT} {h : pm_H} {l0 : Nat} (w :
    (h.1[l0]? = some (0, 11)) ∧
    post (some (.int (gi h l0 0))) h) :
    Wp G (m_X12_thrown, d + 1, 0, 0, post) (0, 0) 0 [.ref l0] [] h := by
  refine w_aload_n dX12_thrown_0 rfl ?_
  obtain ⟨e1, w⟩ := w
  refine w_geti dX12_thrown_1 lk_RX12_1 e1 rfl ?_
  exact w_ireturn dX12_thrown_4 rfl rfl ⟨Nat.le_refl _, Nat.le_refl _⟩ w
set_option maxRecDepth 20000 in
set_option maxHeartbeats 4000000 in
theorem x_X12_feed {G : pm_G} {d : Nat} {post : pm_PT} {h : pm_H} {l0 : Nat} {l1 : Int64} {l3 : Int64} {l5 : Int64} (w :
    (h.1[l0]? = some (0, 11)) ∧
    ∀ h1 : pm_H, h1 = si h l0 0 0 →
    cv G d m_X12_lay [.ref l0, .long l1] h1 fun h3 =>
    (h3.1[l0]? = some (0, 11)) ∧
    cv G d m_X12_lay [.ref l0, .long l3] h3 fun h5 =>
    (h5.1[l0]? = some (0, 11)) ∧
    cv G d m_X12_lay [.ref l0, .long l5] h5 fun h7 =>
    (h7.1[l0]? = some (0, 11)) ∧
    post (some (.int (gi h7 l0 2))) h7) :
    Wp G (m_X12_feed, d + 1, 0, 0, post) (0, 0) 0 [.ref l0, .long l1, .null, .long l3, .null, .long l5, .null] [] h := by
  refine w_aload_n dX12_feed_0 rfl ?_
  refine w_iconst (v := 0) dX12_feed_1 rfl ?_
  obtain ⟨e1, w⟩ := w
  refine w_puti dX12_feed_2 lk_RX12_1 e1 rfl (Or.inl rfl) ?_
  have w := w _ rfl
  refine w_aload_n dX12_feed_5 rfl ?_
  refine w_lload_n dX12_feed_6 rfl ?_
  refine w_callV (As := [.long l1]) (st := []) dX12_feed_7 mt_X12_lay g_1324 g_1326 g_49 rfl e1 rfl rfl (Nat.le_of_ble_eq_true rfl) (Nat.le_refl _) ⟨Nat.le_refl _, Nat.le_refl _⟩ w ?_
  rintro v h3 ⟨rfl, w⟩
  refine w_aload_n dX12_feed_10 rfl ?_
  refine w_lload_n dX12_feed_11 rfl ?_
  obtain ⟨e1, w⟩ := w
  refine w_callV (As := [.long l3]) (st := []) dX12_feed_12 mt_X12_lay g_1324 g_1326 g_49 rfl e1 rfl rfl (Nat.le_of_ble_eq_true rfl) (Nat.le_refl _) ⟨Nat.le_refl _, Nat.le_refl _⟩ w ?_
  rintro v h5 ⟨rfl, w⟩
  refine w_aload_n dX12_feed_15 rfl ?_
  refine w_lload dX12_feed_16 rfl ?_
  obtain ⟨e1, w⟩ := w
  refine w_callV (As := [.long l5]) (st := []) dX12_feed_18 mt_X12_lay g_1324 g_1326 g_49 rfl e1 rfl rfl (Nat.le_of_ble_eq_true rfl) (Nat.le_refl _) ⟨Nat.le_refl _, Nat.le_refl _⟩ w ?_
  rintro v h7 ⟨rfl, w⟩
  refine w_aload_n dX12_feed_21 rfl ?_
  obtain ⟨e1, w⟩ := w
  refine w_geti dX12_feed_22 lk_RX12_11 e1 rfl ?_
  exact w_ireturn dX12_feed_25 rfl rfl ⟨Nat.le_refl _, Nat.le_refl _⟩ w
set_option maxRecDepth 20000 in
set_option maxHeartbeats 4000000 in
theorem x_X12_lay {G : pm_G} {d : Nat} {post : pm_PT} {h : pm_H} {l0 : Nat} {l1 : Int64} (w :
    Wp G (m_X12_lay, d + 1, 0, 0, post) (0, 0) 3 [.ref l0, .long l1, .null, .int 56, .null] [] h) :
    Wp G (m_X12_lay, d + 1, 0, 0, post) (0, 0) 0 [.ref l0, .long l1, .null, .null, .null] [] h := by
  refine w_bipush (v := 56) dX12_lay_0 rfl ?_
  refine v_istore_n (l' := [.ref l0, .long l1, .null, .int 56, .null]) dX12_lay_2 (Nat.le_of_ble_eq_true rfl) rfl ?_
  exact w
set_option maxRecDepth 20000 in
set_option maxHeartbeats 4000000 in
theorem x_X12_lay_3 {G : pm_G} {d : Nat} {post : pm_PT} {h : pm_H} {l0 : Nat} {l1 : Int64} {l3 : Int32} (w :
    if l3 < 0 then (
      post none h
    ) else (
      if (((l1 >>> ((l3 : Int32).toInt64 &&& 63) : Int64).toInt32) &&& 255) = 10 then (
        Wp G (m_X12_lay, d + 1, 0, 0, post) (0, 0) 38 [.ref l0, .long l1, .null, .int l3, .int (((l1 >>> ((l3 : Int32).toInt64 &&& 63) : Int64).toInt32) &&& 255)] [] h
      ) else (
        if (((l1 >>> ((l3 : Int32).toInt64 &&& 63) : Int64).toInt32) &&& 255) < 32 then (
          Wp G (m_X12_lay, d + 1, 0, 0, post) (0, 0) 3 [.ref l0, .long l1, .null, .int (l3 + (-8)), .null] [] h
        ) else (
          if 126 < (((l1 >>> ((l3 : Int32).toInt64 &&& 63) : Int64).toInt32) &&& 255) then (
            Wp G (m_X12_lay, d + 1, 0, 0, post) (0, 0) 3 [.ref l0, .long l1, .null, .int (l3 + (-8)), .null] [] h
          ) else (
            Wp G (m_X12_lay, d + 1, 0, 0, post) (0, 0) 38 [.ref l0, .long l1, .null, .int l3, .int (((l1 >>> ((l3 : Int32).toInt64 &&& 63) : Int64).toInt32) &&& 255)] [] h
          )
        )
      )
    )) :
    Wp G (m_X12_lay, d + 1, 0, 0, post) (0, 0) 3 [.ref l0, .long l1, .null, .int l3, .null] [] h := by
  refine w_iload_n dX12_lay_3 rfl ?_
  refine w_if_lt (tgt := 75) dX12_lay_4 rfl (fun c => ?_) (fun c => ?_)
  · rw [if_pos c] at w
    exact w_return dX12_lay_75 rfl ⟨Nat.le_refl _, Nat.le_refl _⟩ w
  · rw [if_neg c] at w
    refine w_lload_n dX12_lay_7 rfl ?_
    refine w_iload_n dX12_lay_8 rfl ?_
    refine w_lshr dX12_lay_9 ?_
    refine w_l2i dX12_lay_10 ?_
    refine w_sipush (v := 255) dX12_lay_11 rfl ?_
    refine w_iand dX12_lay_14 ?_
    refine v_istore (l' := [.ref l0, .long l1, .null, .int l3, .int (((l1 >>> ((l3 : Int32).toInt64 &&& 63) : Int64).toInt32) &&& 255)]) dX12_lay_15 (Nat.le_of_ble_eq_true rfl) rfl ?_
    refine w_iload dX12_lay_17 rfl ?_
    refine w_bipush (v := 10) dX12_lay_19 rfl ?_
    refine w_ic_eq (tgt := 38) dX12_lay_21 rfl (fun c => ?_) (fun c => ?_)
    · rw [if_pos c] at w
      exact w
    · rw [if_neg c] at w
      refine w_iload dX12_lay_24 rfl ?_
      refine w_bipush (v := 32) dX12_lay_26 rfl ?_
      refine w_ic_lt (tgt := 69) dX12_lay_28 rfl (fun c => ?_) (fun c => ?_)
      · rw [if_pos c] at w
        refine v_iinc (l' := [.ref l0, .long l1, .null, .int (l3 + (-8)), .int (((l1 >>> ((l3 : Int32).toInt64 &&& 63) : Int64).toInt32) &&& 255)]) (v := l3 + (-8)) dX12_lay_69 rfl rfl (Nat.le_of_ble_eq_true rfl) rfl ?_
        refine w_goto (tgt := 3) dX12_lay_72 rfl ?_
        exact w_drop (l' := [.ref l0, .long l1, .null, .int (l3 + (-8)), .null]) ⟨Or.inr rfl, Or.inr rfl, Or.inl rfl, Or.inr rfl, Or.inl rfl, trivial⟩ w
      · rw [if_neg c] at w
        refine w_iload dX12_lay_31 rfl ?_
        refine w_bipush (v := 126) dX12_lay_33 rfl ?_
        refine w_ic_gt (tgt := 69) dX12_lay_35 rfl (fun c => ?_) (fun c => ?_)
        · rw [if_pos c] at w
          refine v_iinc (l' := [.ref l0, .long l1, .null, .int (l3 + (-8)), .int (((l1 >>> ((l3 : Int32).toInt64 &&& 63) : Int64).toInt32) &&& 255)]) (v := l3 + (-8)) dX12_lay_69 rfl rfl (Nat.le_of_ble_eq_true rfl) rfl ?_
          refine w_goto (tgt := 3) dX12_lay_72 rfl ?_
          exact w_drop (l' := [.ref l0, .long l1, .null, .int (l3 + (-8)), .null]) ⟨Or.inr rfl, Or.inr rfl, Or.inl rfl, Or.inr rfl, Or.inl rfl, trivial⟩ w
        · rw [if_neg c] at w
          exact w
set_option maxRecDepth 20000 in
set_option maxHeartbeats 4000000 in
theorem x_X12_lay_38 {G : pm_G} {d : Nat} {post : pm_PT} {h : pm_H} {l0 : Nat} {l1 : Int64} {l3 : Int32} {l4 : Int32} (w :
    (h.1[l0]? = some (0, 11)) ∧
    if 1000 ≤ (gi h l0 2) then (
      Wp G (m_X12_lay, d + 1, 0, 0, post) (0, 0) 3 [.ref l0, .long l1, .null, .int (l3 + (-8)), .null] [] h
    ) else (
      ∃ n1 : Nat, h.1[gp h l0 1]? = some (1, n1) ∧
      (vp_in (gi h l0 2) n1) ∧
      ∀ h2 : pm_H, h2 = si h (gp h l0 1) (gi h l0 2 : Int32).toNatClampNeg l4 →
      ∀ h3 : pm_H, h3 = si h2 l0 2 ((gi h2 l0 2) + 1) →
      Wp G (m_X12_lay, d + 1, 0, 0, post) (0, 0) 3 [.ref l0, .long l1, .null, .int (l3 + (-8)), .null] [] h3
    )) :
    Wp G (m_X12_lay, d + 1, 0, 0, post) (0, 0) 38 [.ref l0, .long l1, .null, .int l3, .int l4] [] h := by
  refine w_aload_n dX12_lay_38 rfl ?_
  obtain ⟨e1, w⟩ := w
  refine w_geti dX12_lay_39 lk_RX12_11 e1 rfl ?_
  refine w_sipush (v := 1000) dX12_lay_42 rfl ?_
  refine w_ic_ge (tgt := 69) dX12_lay_45 rfl (fun c => ?_) (fun c => ?_)
  · rw [if_pos c] at w
    refine v_iinc (l' := [.ref l0, .long l1, .null, .int (l3 + (-8)), .int l4]) (v := l3 + (-8)) dX12_lay_69 rfl rfl (Nat.le_of_ble_eq_true rfl) rfl ?_
    refine w_goto (tgt := 3) dX12_lay_72 rfl ?_
    exact w_drop (l' := [.ref l0, .long l1, .null, .int (l3 + (-8)), .null]) ⟨Or.inr rfl, Or.inr rfl, Or.inl rfl, Or.inr rfl, Or.inl rfl, trivial⟩ w
  · rw [if_neg c] at w
    refine w_aload_n dX12_lay_48 rfl ?_
    refine w_getp dX12_lay_49 lk_RX12_14 e1 rfl ?_
    refine w_aload_n dX12_lay_52 rfl ?_
    refine w_geti dX12_lay_53 lk_RX12_11 e1 rfl ?_
    refine w_iload dX12_lay_56 rfl ?_
    obtain ⟨n1, ln1, w⟩ := w
    obtain ⟨e3, w⟩ := w
    refine w_iast dX12_lay_58 ln1 e3 ?_
    have w := w _ rfl
    refine w_aload_n dX12_lay_59 rfl ?_
    refine w_dup dX12_lay_60 rfl ?_
    refine w_geti dX12_lay_61 lk_RX12_11 e1 rfl ?_
    refine w_iconst (v := 1) dX12_lay_64 rfl ?_
    refine w_iadd dX12_lay_65 ?_
    refine w_puti dX12_lay_66 lk_RX12_11 e1 rfl (Or.inl rfl) ?_
    have w := w _ rfl
    refine v_iinc (l' := [.ref l0, .long l1, .null, .int (l3 + (-8)), .int l4]) (v := l3 + (-8)) dX12_lay_69 rfl rfl (Nat.le_of_ble_eq_true rfl) rfl ?_
    refine w_goto (tgt := 3) dX12_lay_72 rfl ?_
    exact w_drop (l' := [.ref l0, .long l1, .null, .int (l3 + (-8)), .null]) ⟨Or.inr rfl, Or.inr rfl, Or.inl rfl, Or.inr rfl, Or.inl rfl, trivial⟩ w
set_option maxRecDepth 20000 in
set_option maxHeartbeats 4000000 in
theorem x_X12_isLetter {G : pm_G} {d : Nat} {post : pm_PT} {h : pm_H} {l0 : Int32} (w :
    if l0 < 97 then (
      post (some (.int 0)) h
    ) else (
      if 122 < l0 then (
        post (some (.int 0)) h
      ) else (
        post (some (.int 1)) h
      )
    )) :
    Wp G (m_X12_isLetter, d + 1, 0, 0, post) (0, 0) 0 [.int l0] [] h := by
  refine w_iload_n dX12_isLetter_0 rfl ?_
  refine w_bipush (v := 97) dX12_isLetter_1 rfl ?_
  refine w_ic_lt (tgt := 16) dX12_isLetter_3 rfl (fun c => ?_) (fun c => ?_)
  · rw [if_pos c] at w
    refine w_iconst (v := 0) dX12_isLetter_16 rfl ?_
    exact w_ireturn dX12_isLetter_17 rfl rfl ⟨Nat.le_refl _, Nat.le_refl _⟩ w
  · rw [if_neg c] at w
    refine w_iload_n dX12_isLetter_6 rfl ?_
    refine w_bipush (v := 122) dX12_isLetter_7 rfl ?_
    refine w_ic_gt (tgt := 16) dX12_isLetter_9 rfl (fun c => ?_) (fun c => ?_)
    · rw [if_pos c] at w
      refine w_iconst (v := 0) dX12_isLetter_16 rfl ?_
      exact w_ireturn dX12_isLetter_17 rfl rfl ⟨Nat.le_refl _, Nat.le_refl _⟩ w
    · rw [if_neg c] at w
      refine w_iconst (v := 1) dX12_isLetter_12 rfl ?_
      refine w_goto (tgt := 17) dX12_isLetter_13 rfl ?_
      exact w_ireturn dX12_isLetter_17 rfl rfl ⟨Nat.le_refl _, Nat.le_refl _⟩ w
set_option maxRecDepth 20000 in
set_option maxHeartbeats 4000000 in
theorem x_X12_isDigit {G : pm_G} {d : Nat} {post : pm_PT} {h : pm_H} {l0 : Int32} (w :
    if l0 < 48 then (
      post (some (.int 0)) h
    ) else (
      if 57 < l0 then (
        post (some (.int 0)) h
      ) else (
        post (some (.int 1)) h
      )
    )) :
    Wp G (m_X12_isDigit, d + 1, 0, 0, post) (0, 0) 0 [.int l0] [] h := by
  refine w_iload_n dX12_isDigit_0 rfl ?_
  refine w_bipush (v := 48) dX12_isDigit_1 rfl ?_
  refine w_ic_lt (tgt := 16) dX12_isDigit_3 rfl (fun c => ?_) (fun c => ?_)
  · rw [if_pos c] at w
    refine w_iconst (v := 0) dX12_isDigit_16 rfl ?_
    exact w_ireturn dX12_isDigit_17 rfl rfl ⟨Nat.le_refl _, Nat.le_refl _⟩ w
  · rw [if_neg c] at w
    refine w_iload_n dX12_isDigit_6 rfl ?_
    refine w_bipush (v := 57) dX12_isDigit_7 rfl ?_
    refine w_ic_gt (tgt := 16) dX12_isDigit_9 rfl (fun c => ?_) (fun c => ?_)
    · rw [if_pos c] at w
      refine w_iconst (v := 0) dX12_isDigit_16 rfl ?_
      exact w_ireturn dX12_isDigit_17 rfl rfl ⟨Nat.le_refl _, Nat.le_refl _⟩ w
    · rw [if_neg c] at w
      refine w_iconst (v := 1) dX12_isDigit_12 rfl ?_
      refine w_goto (tgt := 17) dX12_isDigit_13 rfl ?_
      exact w_ireturn dX12_isDigit_17 rfl rfl ⟨Nat.le_refl _, Nat.le_refl _⟩ w
set_option maxRecDepth 20000 in
set_option maxHeartbeats 4000000 in
theorem x_X12_rank {G : pm_G} {d : Nat} {post : pm_PT} {h : pm_H} {l0 : Int32} (w :
    ci G d m_X12_isLetter [.int l0] h fun r1 h2 =>
    if r1 = 0 then (
      post (some (.int (l0 - 21))) h2
    ) else (
      post (some (.int (l0 - 96))) h2
    )) :
    Wp G (m_X12_rank, d + 1, 0, 0, post) (0, 0) 0 [.int l0] [] h := by
  refine w_iload_n dX12_rank_0 rfl ?_
  refine w_callS (As := [.int l0]) (st := []) dX12_rank_1 mt_X12_isLetter g_1564 g_1565 rfl rfl (Nat.le_of_ble_eq_true rfl) (Nat.le_refl _) ⟨Nat.le_refl _, Nat.le_refl _⟩ w ?_
  rintro v h2 ⟨r1, rfl, w⟩
  refine w_if_eq (tgt := 14) dX12_rank_4 rfl (fun c => ?_) (fun c => ?_)
  · rw [if_pos c] at w
    refine w_iload_n dX12_rank_14 rfl ?_
    refine w_bipush (v := 21) dX12_rank_15 rfl ?_
    refine w_isub dX12_rank_17 ?_
    exact w_ireturn dX12_rank_18 rfl rfl ⟨Nat.le_refl _, Nat.le_refl _⟩ w
  · rw [if_neg c] at w
    refine w_iload_n dX12_rank_7 rfl ?_
    refine w_bipush (v := 96) dX12_rank_8 rfl ?_
    refine w_isub dX12_rank_10 ?_
    refine w_goto (tgt := 18) dX12_rank_11 rfl ?_
    exact w_ireturn dX12_rank_18 rfl rfl ⟨Nat.le_refl _, Nat.le_refl _⟩ w
set_option maxRecDepth 20000 in
set_option maxHeartbeats 4000000 in
theorem x_X12_isSignOf {G : pm_G} {d : Nat} {post : pm_PT} {h : pm_H} {l0 : Int32} (w :
    if l0 = 40 then (
      post (some (.int 1)) h
    ) else (
      if l0 = 41 then (
        post (some (.int 1)) h
      ) else (
        if l0 = 59 then (
          post (some (.int 1)) h
        ) else (
          if l0 = 61 then (
            post (some (.int 1)) h
          ) else (
            if l0 = 60 then (
              post (some (.int 1)) h
            ) else (
              if l0 = 43 then (
                post (some (.int 1)) h
              ) else (
                if l0 = 45 then (
                  post (some (.int 1)) h
                ) else (
                  if l0 = 42 then (
                    post (some (.int 1)) h
                  ) else (
                    post (some (.int 0)) h
                  )
                )
              )
            )
          )
        )
      )
    )) :
    Wp G (m_X12_isSignOf, d + 1, 0, 0, post) (0, 0) 0 [.int l0] [] h := by
  refine w_iload_n dX12_isSignOf_0 rfl ?_
  refine w_bipush (v := 40) dX12_isSignOf_1 rfl ?_
  refine w_ic_eq (tgt := 48) dX12_isSignOf_3 rfl (fun c => ?_) (fun c => ?_)
  · rw [if_pos c] at w
    refine w_iconst (v := 1) dX12_isSignOf_48 rfl ?_
    refine w_goto (tgt := 53) dX12_isSignOf_49 rfl ?_
    exact w_ireturn dX12_isSignOf_53 rfl rfl ⟨Nat.le_refl _, Nat.le_refl _⟩ w
  · rw [if_neg c] at w
    refine w_iload_n dX12_isSignOf_6 rfl ?_
    refine w_bipush (v := 41) dX12_isSignOf_7 rfl ?_
    refine w_ic_eq (tgt := 48) dX12_isSignOf_9 rfl (fun c => ?_) (fun c => ?_)
    · rw [if_pos c] at w
      refine w_iconst (v := 1) dX12_isSignOf_48 rfl ?_
      refine w_goto (tgt := 53) dX12_isSignOf_49 rfl ?_
      exact w_ireturn dX12_isSignOf_53 rfl rfl ⟨Nat.le_refl _, Nat.le_refl _⟩ w
    · rw [if_neg c] at w
      refine w_iload_n dX12_isSignOf_12 rfl ?_
      refine w_bipush (v := 59) dX12_isSignOf_13 rfl ?_
      refine w_ic_eq (tgt := 48) dX12_isSignOf_15 rfl (fun c => ?_) (fun c => ?_)
      · rw [if_pos c] at w
        refine w_iconst (v := 1) dX12_isSignOf_48 rfl ?_
        refine w_goto (tgt := 53) dX12_isSignOf_49 rfl ?_
        exact w_ireturn dX12_isSignOf_53 rfl rfl ⟨Nat.le_refl _, Nat.le_refl _⟩ w
      · rw [if_neg c] at w
        refine w_iload_n dX12_isSignOf_18 rfl ?_
        refine w_bipush (v := 61) dX12_isSignOf_19 rfl ?_
        refine w_ic_eq (tgt := 48) dX12_isSignOf_21 rfl (fun c => ?_) (fun c => ?_)
        · rw [if_pos c] at w
          refine w_iconst (v := 1) dX12_isSignOf_48 rfl ?_
          refine w_goto (tgt := 53) dX12_isSignOf_49 rfl ?_
          exact w_ireturn dX12_isSignOf_53 rfl rfl ⟨Nat.le_refl _, Nat.le_refl _⟩ w
        · rw [if_neg c] at w
          refine w_iload_n dX12_isSignOf_24 rfl ?_
          refine w_bipush (v := 60) dX12_isSignOf_25 rfl ?_
          refine w_ic_eq (tgt := 48) dX12_isSignOf_27 rfl (fun c => ?_) (fun c => ?_)
          · rw [if_pos c] at w
            refine w_iconst (v := 1) dX12_isSignOf_48 rfl ?_
            refine w_goto (tgt := 53) dX12_isSignOf_49 rfl ?_
            exact w_ireturn dX12_isSignOf_53 rfl rfl ⟨Nat.le_refl _, Nat.le_refl _⟩ w
          · rw [if_neg c] at w
            refine w_iload_n dX12_isSignOf_30 rfl ?_
            refine w_bipush (v := 43) dX12_isSignOf_31 rfl ?_
            refine w_ic_eq (tgt := 48) dX12_isSignOf_33 rfl (fun c => ?_) (fun c => ?_)
            · rw [if_pos c] at w
              refine w_iconst (v := 1) dX12_isSignOf_48 rfl ?_
              refine w_goto (tgt := 53) dX12_isSignOf_49 rfl ?_
              exact w_ireturn dX12_isSignOf_53 rfl rfl ⟨Nat.le_refl _, Nat.le_refl _⟩ w
            · rw [if_neg c] at w
              refine w_iload_n dX12_isSignOf_36 rfl ?_
              refine w_bipush (v := 45) dX12_isSignOf_37 rfl ?_
              refine w_ic_eq (tgt := 48) dX12_isSignOf_39 rfl (fun c => ?_) (fun c => ?_)
              · rw [if_pos c] at w
                refine w_iconst (v := 1) dX12_isSignOf_48 rfl ?_
                refine w_goto (tgt := 53) dX12_isSignOf_49 rfl ?_
                exact w_ireturn dX12_isSignOf_53 rfl rfl ⟨Nat.le_refl _, Nat.le_refl _⟩ w
              · rw [if_neg c] at w
                refine w_iload_n dX12_isSignOf_42 rfl ?_
                refine w_bipush (v := 42) dX12_isSignOf_43 rfl ?_
                refine w_ic_ne (tgt := 52) dX12_isSignOf_45 rfl (fun c => ?_) (fun c => ?_)
                · rw [if_neg c] at w
                  refine w_iconst (v := 0) dX12_isSignOf_52 rfl ?_
                  exact w_ireturn dX12_isSignOf_53 rfl rfl ⟨Nat.le_refl _, Nat.le_refl _⟩ w
                · rw [if_pos c] at w
                  refine w_iconst (v := 1) dX12_isSignOf_48 rfl ?_
                  refine w_goto (tgt := 53) dX12_isSignOf_49 rfl ?_
                  exact w_ireturn dX12_isSignOf_53 rfl rfl ⟨Nat.le_refl _, Nat.le_refl _⟩ w
set_option maxRecDepth 20000 in
set_option maxHeartbeats 4000000 in
theorem x_X12_cutAll {G : pm_G} {d : Nat} {post : pm_PT} {h : pm_H} {l0 : Nat} (w :
    (h.1[l0]? = some (0, 11)) ∧
    ∀ h1 : pm_H, h1 = si h l0 3 (gi h l0 2) →
    ∀ h2 : pm_H, h2 = si h1 l0 2 0 →
    Wp G (m_X12_cutAll, d + 1, 0, 0, post) (0, 0) 17 [.ref l0, .int 0, .int 0, .null, .null, .null, .null] [] h2) :
    Wp G (m_X12_cutAll, d + 1, 0, 0, post) (0, 0) 0 [.ref l0, .null, .null, .null, .null, .null, .null] [] h := by
  refine w_aload_n dX12_cutAll_0 rfl ?_
  refine w_aload_n dX12_cutAll_1 rfl ?_
  obtain ⟨e1, w⟩ := w
  refine w_geti dX12_cutAll_2 lk_RX12_11 e1 rfl ?_
  refine w_puti dX12_cutAll_5 lk_RX12_124 e1 rfl (Or.inl rfl) ?_
  have w := w _ rfl
  refine w_aload_n dX12_cutAll_8 rfl ?_
  refine w_iconst (v := 0) dX12_cutAll_9 rfl ?_
  refine w_puti dX12_cutAll_10 lk_RX12_11 e1 rfl (Or.inl rfl) ?_
  have w := w _ rfl
  refine w_iconst (v := 0) dX12_cutAll_13 rfl ?_
  refine v_istore_n (l' := [.ref l0, .int 0, .null, .null, .null, .null, .null]) dX12_cutAll_14 (Nat.le_of_ble_eq_true rfl) rfl ?_
  refine w_iconst (v := 0) dX12_cutAll_15 rfl ?_
  refine v_istore_n (l' := [.ref l0, .int 0, .int 0, .null, .null, .null, .null]) dX12_cutAll_16 (Nat.le_of_ble_eq_true rfl) rfl ?_
  exact w
set_option maxRecDepth 20000 in
set_option maxHeartbeats 4000000 in
theorem x_X12_cutAll_17 {G : pm_G} {d : Nat} {post : pm_PT} {h : pm_H} {l0 : Nat} {l1 : Int32} {l2 : Int32} (w :
    (h.1[l0]? = some (0, 11)) ∧
    if (gi h l0 3) ≤ l2 then (
      ∃ n1 : Nat, h.1[gp h l0 4]? = some (1, n1) ∧
      (vp_in l1 n1) ∧
      ∀ h2 : pm_H, h2 = si h (gp h l0 4) (l1 : Int32).toNatClampNeg 0 →
      ∃ n3 : Nat, h.1[gp h2 l0 5]? = some (1, n3) ∧
      (vp_in l1 n3) ∧
      ∀ h4 : pm_H, h4 = si h2 (gp h2 l0 5) (l1 : Int32).toNatClampNeg (gi h2 l0 3) →
      ∀ h5 : pm_H, h5 = si h4 l0 7 0 →
      ∀ h6 : pm_H, h6 = si h5 l0 8 0 →
      post none h6
    ) else (
      ∃ n7 : Nat, h.1[gp h l0 1]? = some (1, n7) ∧
      (vp_in l2 n7) ∧
      if (gi h (gp h l0 1) (l2 : Int32).toNatClampNeg) = 10 then (
        Wp G (m_X12_cutAll, d + 1, 0, 0, post) (0, 0) 17 [.ref l0, .int l1, .int (l2 + 1), .null, .null, .null, .null] [] h
      ) else (
        if (gi h (gp h l0 1) (l2 : Int32).toNatClampNeg) = 32 then (
          Wp G (m_X12_cutAll, d + 1, 0, 0, post) (0, 0) 17 [.ref l0, .int l1, .int (l2 + 1), .null, .null, .null, .null] [] h
        ) else (
          ∃ n8 : Nat, h.1[gp h l0 5]? = some (1, n8) ∧
          (vp_in l1 n8) ∧
          ∀ h9 : pm_H, h9 = si h (gp h l0 5) (l1 : Int32).toNatClampNeg l2 →
          ci G d m_X12_isLetter [.int (gi h (gp h l0 1) (l2 : Int32).toNatClampNeg)] h9 fun r10 h11 =>
          if r10 = 0 then (
            ci G d m_X12_isDigit [.int (gi h (gp h l0 1) (l2 : Int32).toNatClampNeg)] h11 fun r12 h13 =>
            if r12 = 0 then (
              (h13.1[l0]? = some (0, 11)) ∧
              ci G d m_X12_isSignOf [.int (gi h (gp h l0 1) (l2 : Int32).toNatClampNeg)] h13 fun r14 h15 =>
              if r14 = 0 then (
                ∃ n16 : Nat, h15.1[gp h13 l0 4]? = some (1, n16) ∧
                (vp_in l1 n16) ∧
                ∀ h17 : pm_H, h17 = si h15 (gp h13 l0 4) (l1 : Int32).toNatClampNeg 4 →
                Wp G (m_X12_cutAll, d + 1, 0, 0, post) (0, 0) 265 [.ref l0, .int l1, .int (l2 + 1), .null, .null, .long ((gi h (gp h l0 1) (l2 : Int32).toNatClampNeg : Int32).toInt64), .null] [] h17
              ) else (
                ∃ n18 : Nat, h15.1[gp h13 l0 4]? = some (1, n18) ∧
                (vp_in l1 n18) ∧
                ∀ h19 : pm_H, h19 = si h15 (gp h13 l0 4) (l1 : Int32).toNatClampNeg 3 →
                Wp G (m_X12_cutAll, d + 1, 0, 0, post) (0, 0) 265 [.ref l0, .int l1, .int (l2 + 1), .null, .null, .long ((gi h (gp h l0 1) (l2 : Int32).toNatClampNeg : Int32).toInt64), .null] [] h19
              )
            ) else (
              Wp G (m_X12_cutAll, d + 1, 0, 0, post) (0, 0) 159 [.ref l0, .int l1, .int l2, .null, .int l2, .long (0 : Int64), .null] [] h13
            )
          ) else (
            Wp G (m_X12_cutAll, d + 1, 0, 0, post) (0, 0) 70 [.ref l0, .int l1, .int l2, .null, .int l2, .long (0 : Int64), .null] [] h11
          )
        )
      )
    )) :
    Wp G (m_X12_cutAll, d + 1, 0, 0, post) (0, 0) 17 [.ref l0, .int l1, .int l2, .null, .null, .null, .null] [] h := by
  refine w_iload_n dX12_cutAll_17 rfl ?_
  refine w_aload_n dX12_cutAll_18 rfl ?_
  obtain ⟨e1, w⟩ := w
  refine w_geti dX12_cutAll_19 lk_RX12_124 e1 rfl ?_
  refine w_ic_ge (tgt := 279) dX12_cutAll_22 rfl (fun c => ?_) (fun c => ?_)
  · rw [if_pos c] at w
    refine w_aload_n dX12_cutAll_279 rfl ?_
    refine w_getp dX12_cutAll_280 lk_RX12_24 e1 rfl ?_
    refine w_iload_n dX12_cutAll_283 rfl ?_
    refine w_iconst (v := 0) dX12_cutAll_284 rfl ?_
    obtain ⟨n1, ln1, w⟩ := w
    obtain ⟨e3, w⟩ := w
    refine w_iast dX12_cutAll_285 ln1 e3 ?_
    have w := w _ rfl
    refine w_aload_n dX12_cutAll_286 rfl ?_
    refine w_getp dX12_cutAll_287 lk_RX12_27 e1 rfl ?_
    refine w_iload_n dX12_cutAll_290 rfl ?_
    refine w_aload_n dX12_cutAll_291 rfl ?_
    refine w_geti dX12_cutAll_292 lk_RX12_124 e1 rfl ?_
    obtain ⟨n3, ln3, w⟩ := w
    obtain ⟨e5, w⟩ := w
    refine w_iast dX12_cutAll_295 ln3 e5 ?_
    have w := w _ rfl
    refine w_aload_n dX12_cutAll_296 rfl ?_
    refine w_iconst (v := 0) dX12_cutAll_297 rfl ?_
    refine w_puti dX12_cutAll_298 lk_RX12_143 e1 rfl (Or.inl rfl) ?_
    have w := w _ rfl
    refine w_aload_n dX12_cutAll_301 rfl ?_
    refine w_iconst (v := 0) dX12_cutAll_302 rfl ?_
    refine w_puti dX12_cutAll_303 lk_RX12_146 e1 rfl (Or.inl rfl) ?_
    have w := w _ rfl
    exact w_return dX12_cutAll_306 rfl ⟨Nat.le_refl _, Nat.le_refl _⟩ w
  · rw [if_neg c] at w
    refine w_aload_n dX12_cutAll_25 rfl ?_
    refine w_getp dX12_cutAll_26 lk_RX12_14 e1 rfl ?_
    refine w_iload_n dX12_cutAll_29 rfl ?_
    obtain ⟨n7, ln7, w⟩ := w
    obtain ⟨e3, w⟩ := w
    refine w_iald dX12_cutAll_30 ln7 e3 ?_
    refine v_istore_n (l' := [.ref l0, .int l1, .int l2, .int (gi h (gp h l0 1) (l2 : Int32).toNatClampNeg), .null, .null, .null]) dX12_cutAll_31 (Nat.le_of_ble_eq_true rfl) rfl ?_
    refine w_iload_n dX12_cutAll_32 rfl ?_
    refine w_bipush (v := 10) dX12_cutAll_33 rfl ?_
    refine w_ic_eq (tgt := 44) dX12_cutAll_35 rfl (fun c => ?_) (fun c => ?_)
    · rw [if_pos c] at w
      refine v_iinc (l' := [.ref l0, .int l1, .int (l2 + 1), .int (gi h (gp h l0 1) (l2 : Int32).toNatClampNeg), .null, .null, .null]) (v := l2 + 1) dX12_cutAll_44 rfl rfl (Nat.le_of_ble_eq_true rfl) rfl ?_
      refine w_goto (tgt := 17) dX12_cutAll_47 rfl ?_
      exact w_drop (l' := [.ref l0, .int l1, .int (l2 + 1), .null, .null, .null, .null]) ⟨Or.inr rfl, Or.inr rfl, Or.inr rfl, Or.inl rfl, Or.inl rfl, Or.inl rfl, Or.inl rfl, trivial⟩ w
    · rw [if_neg c] at w
      refine w_iload_n dX12_cutAll_38 rfl ?_
      refine w_bipush (v := 32) dX12_cutAll_39 rfl ?_
      refine w_ic_ne (tgt := 50) dX12_cutAll_41 rfl (fun c => ?_) (fun c => ?_)
      · rw [if_neg c] at w
        refine w_iload_n dX12_cutAll_50 rfl ?_
        refine v_istore (l' := [.ref l0, .int l1, .int l2, .int (gi h (gp h l0 1) (l2 : Int32).toNatClampNeg), .int l2, .null, .null]) dX12_cutAll_51 (Nat.le_of_ble_eq_true rfl) rfl ?_
        refine w_lconst (v := 0) dX12_cutAll_53 rfl ?_
        refine v_lstore (l' := [.ref l0, .int l1, .int l2, .int (gi h (gp h l0 1) (l2 : Int32).toNatClampNeg), .int l2, .long (0 : Int64), .null]) dX12_cutAll_54 (Nat.le_of_ble_eq_true rfl) rfl ?_
        refine w_aload_n dX12_cutAll_56 rfl ?_
        refine w_getp dX12_cutAll_57 lk_RX12_27 e1 rfl ?_
        refine w_iload_n dX12_cutAll_60 rfl ?_
        refine w_iload_n dX12_cutAll_61 rfl ?_
        obtain ⟨n8, ln8, w⟩ := w
        obtain ⟨e5, w⟩ := w
        refine w_iast dX12_cutAll_62 ln8 e5 ?_
        have w := w _ rfl
        refine w_iload_n dX12_cutAll_63 rfl ?_
        refine w_callS (As := [.int (gi h (gp h l0 1) (l2 : Int32).toNatClampNeg)]) (st := []) dX12_cutAll_64 mt_X12_isLetter g_1564 g_1565 rfl rfl (Nat.le_of_ble_eq_true rfl) (Nat.le_refl _) ⟨Nat.le_refl _, Nat.le_refl _⟩ w ?_
        rintro v h11 ⟨r10, rfl, w⟩
        refine w_if_eq (tgt := 152) dX12_cutAll_67 rfl (fun c => ?_) (fun c => ?_)
        · rw [if_pos c] at w
          refine w_iload_n dX12_cutAll_152 rfl ?_
          refine w_callS (As := [.int (gi h (gp h l0 1) (l2 : Int32).toNatClampNeg)]) (st := []) dX12_cutAll_153 mt_X12_isDigit g_1571 g_1572 rfl rfl (Nat.le_of_ble_eq_true rfl) (Nat.le_refl _) ⟨Nat.le_refl _, Nat.le_refl _⟩ w ?_
          rintro v h13 ⟨r12, rfl, w⟩
          refine w_if_eq (tgt := 240) dX12_cutAll_156 rfl (fun c => ?_) (fun c => ?_)
          · rw [if_pos c] at w
            refine w_iload_n dX12_cutAll_240 rfl ?_
            refine w_i2l dX12_cutAll_241 ?_
            refine v_lstore (l' := [.ref l0, .int l1, .int l2, .int (gi h (gp h l0 1) (l2 : Int32).toNatClampNeg), .int l2, .long ((gi h (gp h l0 1) (l2 : Int32).toNatClampNeg : Int32).toInt64), .null]) dX12_cutAll_242 (Nat.le_of_ble_eq_true rfl) rfl ?_
            refine w_aload_n dX12_cutAll_244 rfl ?_
            obtain ⟨e1, w⟩ := w
            refine w_getp dX12_cutAll_245 lk_RX12_24 e1 rfl ?_
            refine w_iload_n dX12_cutAll_248 rfl ?_
            refine w_iload_n dX12_cutAll_249 rfl ?_
            refine w_callS (As := [.int (gi h (gp h l0 1) (l2 : Int32).toNatClampNeg)]) (st := [.int l1, .ref (gp h13 l0 4)]) dX12_cutAll_250 mt_X12_isSignOf g_1576 g_1577 rfl rfl (Nat.le_of_ble_eq_true rfl) (Nat.le_refl _) ⟨Nat.le_refl _, Nat.le_refl _⟩ w ?_
            rintro v h15 ⟨r14, rfl, w⟩
            refine w_if_eq (tgt := 260) dX12_cutAll_253 rfl (fun c => ?_) (fun c => ?_)
            · rw [if_pos c] at w
              refine w_iconst (v := 4) dX12_cutAll_260 rfl ?_
              obtain ⟨n16, ln16, w⟩ := w
              obtain ⟨e2, w⟩ := w
              refine w_iast dX12_cutAll_261 ln16 e2 ?_
              have w := w _ rfl
              refine v_iinc (l' := [.ref l0, .int l1, .int (l2 + 1), .int (gi h (gp h l0 1) (l2 : Int32).toNatClampNeg), .int l2, .long ((gi h (gp h l0 1) (l2 : Int32).toNatClampNeg : Int32).toInt64), .null]) (v := l2 + 1) dX12_cutAll_262 rfl rfl (Nat.le_of_ble_eq_true rfl) rfl ?_
              exact w_drop (l' := [.ref l0, .int l1, .int (l2 + 1), .null, .null, .long ((gi h (gp h l0 1) (l2 : Int32).toNatClampNeg : Int32).toInt64), .null]) ⟨Or.inr rfl, Or.inr rfl, Or.inr rfl, Or.inl rfl, Or.inl rfl, Or.inr rfl, Or.inl rfl, trivial⟩ w
            · rw [if_neg c] at w
              refine w_iconst (v := 3) dX12_cutAll_256 rfl ?_
              refine w_goto (tgt := 261) dX12_cutAll_257 rfl ?_
              obtain ⟨n18, ln18, w⟩ := w
              obtain ⟨e2, w⟩ := w
              refine w_iast dX12_cutAll_261 ln18 e2 ?_
              have w := w _ rfl
              refine v_iinc (l' := [.ref l0, .int l1, .int (l2 + 1), .int (gi h (gp h l0 1) (l2 : Int32).toNatClampNeg), .int l2, .long ((gi h (gp h l0 1) (l2 : Int32).toNatClampNeg : Int32).toInt64), .null]) (v := l2 + 1) dX12_cutAll_262 rfl rfl (Nat.le_of_ble_eq_true rfl) rfl ?_
              exact w_drop (l' := [.ref l0, .int l1, .int (l2 + 1), .null, .null, .long ((gi h (gp h l0 1) (l2 : Int32).toNatClampNeg : Int32).toInt64), .null]) ⟨Or.inr rfl, Or.inr rfl, Or.inr rfl, Or.inl rfl, Or.inl rfl, Or.inr rfl, Or.inl rfl, trivial⟩ w
          · rw [if_neg c] at w
            exact w_drop (l' := [.ref l0, .int l1, .int l2, .null, .int l2, .long (0 : Int64), .null]) ⟨Or.inr rfl, Or.inr rfl, Or.inr rfl, Or.inl rfl, Or.inr rfl, Or.inr rfl, Or.inl rfl, trivial⟩ w
        · rw [if_neg c] at w
          exact w_drop (l' := [.ref l0, .int l1, .int l2, .null, .int l2, .long (0 : Int64), .null]) ⟨Or.inr rfl, Or.inr rfl, Or.inr rfl, Or.inl rfl, Or.inr rfl, Or.inr rfl, Or.inl rfl, trivial⟩ w
      · rw [if_pos c] at w
        refine v_iinc (l' := [.ref l0, .int l1, .int (l2 + 1), .int (gi h (gp h l0 1) (l2 : Int32).toNatClampNeg), .null, .null, .null]) (v := l2 + 1) dX12_cutAll_44 rfl rfl (Nat.le_of_ble_eq_true rfl) rfl ?_
        refine w_goto (tgt := 17) dX12_cutAll_47 rfl ?_
        exact w_drop (l' := [.ref l0, .int l1, .int (l2 + 1), .null, .null, .null, .null]) ⟨Or.inr rfl, Or.inr rfl, Or.inr rfl, Or.inl rfl, Or.inl rfl, Or.inl rfl, Or.inl rfl, trivial⟩ w
set_option maxRecDepth 20000 in
set_option maxHeartbeats 4000000 in
theorem x_X12_cutAll_70 {G : pm_G} {d : Nat} {post : pm_PT} {h : pm_H} {l0 : Nat} {l1 : Int32} {l2 : Int32} {l4 : Int32} {l5 : Int64} (w :
    (h.1[l0]? = some (0, 11)) ∧
    if (gi h l0 3) ≤ l2 then (
      Wp G (m_X12_cutAll, d + 1, 0, 0, post) (0, 0) 129 [.ref l0, .int l1, .int l2, .null, .int l4, .long l5, .null] [] h
    ) else (
      ∃ n1 : Nat, h.1[gp h l0 1]? = some (1, n1) ∧
      (vp_in l2 n1) ∧
      ci G d m_X12_isLetter [.int (gi h (gp h l0 1) (l2 : Int32).toNatClampNeg)] h fun r2 h3 =>
      if r2 = 0 then (
        Wp G (m_X12_cutAll, d + 1, 0, 0, post) (0, 0) 129 [.ref l0, .int l1, .int l2, .null, .int l4, .long l5, .null] [] h3
      ) else (
        if 8 ≤ (l2 - l4) then (
          Wp G (m_X12_cutAll, d + 1, 0, 0, post) (0, 0) 70 [.ref l0, .int l1, .int (l2 + 1), .null, .int l4, .long l5, .null] [] h3
        ) else (
          (h3.1[l0]? = some (0, 11)) ∧
          ∃ n4 : Nat, h3.1[gp h3 l0 1]? = some (1, n4) ∧
          (vp_in l2 n4) ∧
          ci G d m_X12_rank [.int (gi h3 (gp h3 l0 1) (l2 : Int32).toNatClampNeg)] h3 fun r5 h6 =>
          Wp G (m_X12_cutAll, d + 1, 0, 0, post) (0, 0) 70 [.ref l0, .int l1, .int (l2 + 1), .null, .int l4, .long (((37 : Int64) * l5) + ((r5 : Int32).toInt64)), .null] [] h6
        )
      )
    )) :
    Wp G (m_X12_cutAll, d + 1, 0, 0, post) (0, 0) 70 [.ref l0, .int l1, .int l2, .null, .int l4, .long l5, .null] [] h := by
  refine w_iload_n dX12_cutAll_70 rfl ?_
  refine w_aload_n dX12_cutAll_71 rfl ?_
  obtain ⟨e1, w⟩ := w
  refine w_geti dX12_cutAll_72 lk_RX12_124 e1 rfl ?_
  refine w_ic_ge (tgt := 129) dX12_cutAll_75 rfl (fun c => ?_) (fun c => ?_)
  · rw [if_pos c] at w
    exact w
  · rw [if_neg c] at w
    refine w_aload_n dX12_cutAll_78 rfl ?_
    refine w_getp dX12_cutAll_79 lk_RX12_14 e1 rfl ?_
    refine w_iload_n dX12_cutAll_82 rfl ?_
    obtain ⟨n1, ln1, w⟩ := w
    obtain ⟨e3, w⟩ := w
    refine w_iald dX12_cutAll_83 ln1 e3 ?_
    refine w_callS (As := [.int (gi h (gp h l0 1) (l2 : Int32).toNatClampNeg)]) (st := []) dX12_cutAll_84 mt_X12_isLetter g_1564 g_1565 rfl rfl (Nat.le_of_ble_eq_true rfl) (Nat.le_refl _) ⟨Nat.le_refl _, Nat.le_refl _⟩ w ?_
    rintro v h3 ⟨r2, rfl, w⟩
    refine w_if_eq (tgt := 129) dX12_cutAll_87 rfl (fun c => ?_) (fun c => ?_)
    · rw [if_pos c] at w
      exact w
    · rw [if_neg c] at w
      refine w_iload_n dX12_cutAll_90 rfl ?_
      refine w_iload dX12_cutAll_91 rfl ?_
      refine w_isub dX12_cutAll_93 ?_
      refine w_bipush (v := 8) dX12_cutAll_94 rfl ?_
      refine w_ic_ge (tgt := 119) dX12_cutAll_96 rfl (fun c => ?_) (fun c => ?_)
      · rw [if_pos c] at w
        refine w_lload dX12_cutAll_119 rfl ?_
        refine v_lstore (l' := [.ref l0, .int l1, .int l2, .null, .int l4, .long l5, .null]) dX12_cutAll_121 (Nat.le_of_ble_eq_true rfl) rfl ?_
        refine v_iinc (l' := [.ref l0, .int l1, .int (l2 + 1), .null, .int l4, .long l5, .null]) (v := l2 + 1) dX12_cutAll_123 rfl rfl (Nat.le_of_ble_eq_true rfl) rfl ?_
        refine w_goto (tgt := 70) dX12_cutAll_126 rfl ?_
        exact w
      · rw [if_neg c] at w
        refine w_ldc2 (v := (37 : Int64)) dX12_cutAll_99 g_1567 ?_
        refine w_lload dX12_cutAll_102 rfl ?_
        refine w_lmul dX12_cutAll_104 ?_
        refine w_aload_n dX12_cutAll_105 rfl ?_
        obtain ⟨e1, w⟩ := w
        refine w_getp dX12_cutAll_106 lk_RX12_14 e1 rfl ?_
        refine w_iload_n dX12_cutAll_109 rfl ?_
        obtain ⟨n4, ln4, w⟩ := w
        obtain ⟨e3, w⟩ := w
        refine w_iald dX12_cutAll_110 ln4 e3 ?_
        refine w_callS (As := [.int (gi h3 (gp h3 l0 1) (l2 : Int32).toNatClampNeg)]) (st := [.long ((37 : Int64) * l5)]) dX12_cutAll_111 mt_X12_rank g_1568 g_1569 rfl rfl (Nat.le_of_ble_eq_true rfl) (Nat.le_refl _) ⟨Nat.le_refl _, Nat.le_refl _⟩ w ?_
        rintro v h6 ⟨r5, rfl, w⟩
        refine w_i2l dX12_cutAll_114 ?_
        refine w_ladd dX12_cutAll_115 ?_
        refine w_goto (tgt := 121) dX12_cutAll_116 rfl ?_
        refine v_lstore (l' := [.ref l0, .int l1, .int l2, .null, .int l4, .long (((37 : Int64) * l5) + ((r5 : Int32).toInt64)), .null]) dX12_cutAll_121 (Nat.le_of_ble_eq_true rfl) rfl ?_
        refine v_iinc (l' := [.ref l0, .int l1, .int (l2 + 1), .null, .int l4, .long (((37 : Int64) * l5) + ((r5 : Int32).toInt64)), .null]) (v := l2 + 1) dX12_cutAll_123 rfl rfl (Nat.le_of_ble_eq_true rfl) rfl ?_
        refine w_goto (tgt := 70) dX12_cutAll_126 rfl ?_
        exact w
set_option maxRecDepth 20000 in
set_option maxHeartbeats 4000000 in
theorem x_X12_cutAll_129 {G : pm_G} {d : Nat} {post : pm_PT} {h : pm_H} {l0 : Nat} {l1 : Int32} {l2 : Int32} {l4 : Int32} {l5 : Int64} (w :
    (h.1[l0]? = some (0, 11)) ∧
    if (l2 - l4) ≤ 8 then (
      ∃ n1 : Nat, h.1[gp h l0 4]? = some (1, n1) ∧
      (vp_in l1 n1) ∧
      ∀ h2 : pm_H, h2 = si h (gp h l0 4) (l1 : Int32).toNatClampNeg 1 →
      Wp G (m_X12_cutAll, d + 1, 0, 0, post) (0, 0) 265 [.ref l0, .int l1, .int l2, .null, .null, .long l5, .null] [] h2
    ) else (
      ∃ n3 : Nat, h.1[gp h l0 4]? = some (1, n3) ∧
      (vp_in l1 n3) ∧
      ∀ h4 : pm_H, h4 = si h (gp h l0 4) (l1 : Int32).toNatClampNeg 4 →
      Wp G (m_X12_cutAll, d + 1, 0, 0, post) (0, 0) 265 [.ref l0, .int l1, .int l2, .null, .null, .long l5, .null] [] h4
    )) :
    Wp G (m_X12_cutAll, d + 1, 0, 0, post) (0, 0) 129 [.ref l0, .int l1, .int l2, .null, .int l4, .long l5, .null] [] h := by
  refine w_aload_n dX12_cutAll_129 rfl ?_
  obtain ⟨e1, w⟩ := w
  refine w_getp dX12_cutAll_130 lk_RX12_24 e1 rfl ?_
  refine w_iload_n dX12_cutAll_133 rfl ?_
  refine w_iload_n dX12_cutAll_134 rfl ?_
  refine w_iload dX12_cutAll_135 rfl ?_
  refine w_isub dX12_cutAll_137 ?_
  refine w_bipush (v := 8) dX12_cutAll_138 rfl ?_
  refine w_ic_le (tgt := 147) dX12_cutAll_140 rfl (fun c => ?_) (fun c => ?_)
  · rw [if_pos c] at w
    refine w_iconst (v := 1) dX12_cutAll_147 rfl ?_
    obtain ⟨n1, ln1, w⟩ := w
    obtain ⟨e3, w⟩ := w
    refine w_iast dX12_cutAll_148 ln1 e3 ?_
    have w := w _ rfl
    refine w_goto (tgt := 265) dX12_cutAll_149 rfl ?_
    exact w_drop (l' := [.ref l0, .int l1, .int l2, .null, .null, .long l5, .null]) ⟨Or.inr rfl, Or.inr rfl, Or.inr rfl, Or.inl rfl, Or.inl rfl, Or.inr rfl, Or.inl rfl, trivial⟩ w
  · rw [if_neg c] at w
    refine w_iconst (v := 4) dX12_cutAll_143 rfl ?_
    refine w_goto (tgt := 148) dX12_cutAll_144 rfl ?_
    obtain ⟨n3, ln3, w⟩ := w
    obtain ⟨e3, w⟩ := w
    refine w_iast dX12_cutAll_148 ln3 e3 ?_
    have w := w _ rfl
    refine w_goto (tgt := 265) dX12_cutAll_149 rfl ?_
    exact w_drop (l' := [.ref l0, .int l1, .int l2, .null, .null, .long l5, .null]) ⟨Or.inr rfl, Or.inr rfl, Or.inr rfl, Or.inl rfl, Or.inl rfl, Or.inr rfl, Or.inl rfl, trivial⟩ w
set_option maxRecDepth 20000 in
set_option maxHeartbeats 4000000 in
theorem x_X12_cutAll_159 {G : pm_G} {d : Nat} {post : pm_PT} {h : pm_H} {l0 : Nat} {l1 : Int32} {l2 : Int32} {l4 : Int32} {l5 : Int64} (w :
    (h.1[l0]? = some (0, 11)) ∧
    if (gi h l0 3) ≤ l2 then (
      Wp G (m_X12_cutAll, d + 1, 0, 0, post) (0, 0) 218 [.ref l0, .int l1, .int l2, .null, .int l4, .long l5, .null] [] h
    ) else (
      ∃ n1 : Nat, h.1[gp h l0 1]? = some (1, n1) ∧
      (vp_in l2 n1) ∧
      ci G d m_X12_isDigit [.int (gi h (gp h l0 1) (l2 : Int32).toNatClampNeg)] h fun r2 h3 =>
      if r2 = 0 then (
        Wp G (m_X12_cutAll, d + 1, 0, 0, post) (0, 0) 218 [.ref l0, .int l1, .int l2, .null, .int l4, .long l5, .null] [] h3
      ) else (
        if 4 ≤ (l2 - l4) then (
          Wp G (m_X12_cutAll, d + 1, 0, 0, post) (0, 0) 159 [.ref l0, .int l1, .int (l2 + 1), .null, .int l4, .long l5, .null] [] h3
        ) else (
          (h3.1[l0]? = some (0, 11)) ∧
          ∃ n4 : Nat, h3.1[gp h3 l0 1]? = some (1, n4) ∧
          (vp_in l2 n4) ∧
          ∀ x5 : Int64, x5 = (((10 : Int64) * l5) + ((gi h3 (gp h3 l0 1) (l2 : Int32).toNatClampNeg : Int32).toInt64)) - (48 : Int64) →
          Wp G (m_X12_cutAll, d + 1, 0, 0, post) (0, 0) 159 [.ref l0, .int l1, .int (l2 + 1), .null, .int l4, .long x5, .null] [] h3
        )
      )
    )) :
    Wp G (m_X12_cutAll, d + 1, 0, 0, post) (0, 0) 159 [.ref l0, .int l1, .int l2, .null, .int l4, .long l5, .null] [] h := by
  refine w_iload_n dX12_cutAll_159 rfl ?_
  refine w_aload_n dX12_cutAll_160 rfl ?_
  obtain ⟨e1, w⟩ := w
  refine w_geti dX12_cutAll_161 lk_RX12_124 e1 rfl ?_
  refine w_ic_ge (tgt := 218) dX12_cutAll_164 rfl (fun c => ?_) (fun c => ?_)
  · rw [if_pos c] at w
    exact w
  · rw [if_neg c] at w
    refine w_aload_n dX12_cutAll_167 rfl ?_
    refine w_getp dX12_cutAll_168 lk_RX12_14 e1 rfl ?_
    refine w_iload_n dX12_cutAll_171 rfl ?_
    obtain ⟨n1, ln1, w⟩ := w
    obtain ⟨e3, w⟩ := w
    refine w_iald dX12_cutAll_172 ln1 e3 ?_
    refine w_callS (As := [.int (gi h (gp h l0 1) (l2 : Int32).toNatClampNeg)]) (st := []) dX12_cutAll_173 mt_X12_isDigit g_1571 g_1572 rfl rfl (Nat.le_of_ble_eq_true rfl) (Nat.le_refl _) ⟨Nat.le_refl _, Nat.le_refl _⟩ w ?_
    rintro v h3 ⟨r2, rfl, w⟩
    refine w_if_eq (tgt := 218) dX12_cutAll_176 rfl (fun c => ?_) (fun c => ?_)
    · rw [if_pos c] at w
      exact w
    · rw [if_neg c] at w
      refine w_iload_n dX12_cutAll_179 rfl ?_
      refine w_iload dX12_cutAll_180 rfl ?_
      refine w_isub dX12_cutAll_182 ?_
      refine w_iconst (v := 4) dX12_cutAll_183 rfl ?_
      refine w_ic_ge (tgt := 208) dX12_cutAll_184 rfl (fun c => ?_) (fun c => ?_)
      · rw [if_pos c] at w
        refine w_lload dX12_cutAll_208 rfl ?_
        refine v_lstore (l' := [.ref l0, .int l1, .int l2, .null, .int l4, .long l5, .null]) dX12_cutAll_210 (Nat.le_of_ble_eq_true rfl) rfl ?_
        refine v_iinc (l' := [.ref l0, .int l1, .int (l2 + 1), .null, .int l4, .long l5, .null]) (v := l2 + 1) dX12_cutAll_212 rfl rfl (Nat.le_of_ble_eq_true rfl) rfl ?_
        refine w_goto (tgt := 159) dX12_cutAll_215 rfl ?_
        exact w
      · rw [if_neg c] at w
        refine w_ldc2 (v := (10 : Int64)) dX12_cutAll_187 g_1574 ?_
        refine w_lload dX12_cutAll_190 rfl ?_
        refine w_lmul dX12_cutAll_192 ?_
        refine w_aload_n dX12_cutAll_193 rfl ?_
        obtain ⟨e1, w⟩ := w
        refine w_getp dX12_cutAll_194 lk_RX12_14 e1 rfl ?_
        refine w_iload_n dX12_cutAll_197 rfl ?_
        obtain ⟨n4, ln4, w⟩ := w
        obtain ⟨e3, w⟩ := w
        refine w_iald dX12_cutAll_198 ln4 e3 ?_
        refine w_i2l dX12_cutAll_199 ?_
        refine w_ladd dX12_cutAll_200 ?_
        refine w_ldc2 (v := (48 : Int64)) dX12_cutAll_201 g_1575 ?_
        refine w_lsub dX12_cutAll_204 ?_
        refine w_goto (tgt := 210) dX12_cutAll_205 rfl ?_
        obtain ⟨x5, qx5⟩ : ∃ y : Int64, y = (((10 : Int64) * l5) + ((gi h3 (gp h3 l0 1) (l2 : Int32).toNatClampNeg : Int32).toInt64)) - (48 : Int64) := ⟨_, rfl⟩
        have w := w x5 qx5
        rw [← qx5]
        refine v_lstore (l' := [.ref l0, .int l1, .int l2, .null, .int l4, .long x5, .null]) dX12_cutAll_210 (Nat.le_of_ble_eq_true rfl) rfl ?_
        refine v_iinc (l' := [.ref l0, .int l1, .int (l2 + 1), .null, .int l4, .long x5, .null]) (v := l2 + 1) dX12_cutAll_212 rfl rfl (Nat.le_of_ble_eq_true rfl) rfl ?_
        refine w_goto (tgt := 159) dX12_cutAll_215 rfl ?_
        exact w
set_option maxRecDepth 20000 in
set_option maxHeartbeats 4000000 in
theorem x_X12_cutAll_218 {G : pm_G} {d : Nat} {post : pm_PT} {h : pm_H} {l0 : Nat} {l1 : Int32} {l2 : Int32} {l4 : Int32} {l5 : Int64} (w :
    (h.1[l0]? = some (0, 11)) ∧
    if (l2 - l4) ≤ 4 then (
      ∃ n1 : Nat, h.1[gp h l0 4]? = some (1, n1) ∧
      (vp_in l1 n1) ∧
      ∀ h2 : pm_H, h2 = si h (gp h l0 4) (l1 : Int32).toNatClampNeg 2 →
      Wp G (m_X12_cutAll, d + 1, 0, 0, post) (0, 0) 265 [.ref l0, .int l1, .int l2, .null, .null, .long l5, .null] [] h2
    ) else (
      ∃ n3 : Nat, h.1[gp h l0 4]? = some (1, n3) ∧
      (vp_in l1 n3) ∧
      ∀ h4 : pm_H, h4 = si h (gp h l0 4) (l1 : Int32).toNatClampNeg 4 →
      Wp G (m_X12_cutAll, d + 1, 0, 0, post) (0, 0) 265 [.ref l0, .int l1, .int l2, .null, .null, .long l5, .null] [] h4
    )) :
    Wp G (m_X12_cutAll, d + 1, 0, 0, post) (0, 0) 218 [.ref l0, .int l1, .int l2, .null, .int l4, .long l5, .null] [] h := by
  refine w_aload_n dX12_cutAll_218 rfl ?_
  obtain ⟨e1, w⟩ := w
  refine w_getp dX12_cutAll_219 lk_RX12_24 e1 rfl ?_
  refine w_iload_n dX12_cutAll_222 rfl ?_
  refine w_iload_n dX12_cutAll_223 rfl ?_
  refine w_iload dX12_cutAll_224 rfl ?_
  refine w_isub dX12_cutAll_226 ?_
  refine w_iconst (v := 4) dX12_cutAll_227 rfl ?_
  refine w_ic_le (tgt := 235) dX12_cutAll_228 rfl (fun c => ?_) (fun c => ?_)
  · rw [if_pos c] at w
    refine w_iconst (v := 2) dX12_cutAll_235 rfl ?_
    obtain ⟨n1, ln1, w⟩ := w
    obtain ⟨e3, w⟩ := w
    refine w_iast dX12_cutAll_236 ln1 e3 ?_
    have w := w _ rfl
    refine w_goto (tgt := 265) dX12_cutAll_237 rfl ?_
    exact w_drop (l' := [.ref l0, .int l1, .int l2, .null, .null, .long l5, .null]) ⟨Or.inr rfl, Or.inr rfl, Or.inr rfl, Or.inl rfl, Or.inl rfl, Or.inr rfl, Or.inl rfl, trivial⟩ w
  · rw [if_neg c] at w
    refine w_iconst (v := 4) dX12_cutAll_231 rfl ?_
    refine w_goto (tgt := 236) dX12_cutAll_232 rfl ?_
    obtain ⟨n3, ln3, w⟩ := w
    obtain ⟨e3, w⟩ := w
    refine w_iast dX12_cutAll_236 ln3 e3 ?_
    have w := w _ rfl
    refine w_goto (tgt := 265) dX12_cutAll_237 rfl ?_
    exact w_drop (l' := [.ref l0, .int l1, .int l2, .null, .null, .long l5, .null]) ⟨Or.inr rfl, Or.inr rfl, Or.inr rfl, Or.inl rfl, Or.inl rfl, Or.inr rfl, Or.inl rfl, trivial⟩ w
set_option maxRecDepth 20000 in
set_option maxHeartbeats 4000000 in
theorem x_X12_cutAll_265 {G : pm_G} {d : Nat} {post : pm_PT} {h : pm_H} {l0 : Nat} {l1 : Int32} {l2 : Int32} {l5 : Int64} (w :
    (h.1[l0]? = some (0, 11)) ∧
    ∃ n1 : Nat, h.1[gp h l0 6]? = some (2, n1) ∧
    (vp_in l1 n1) ∧
    ∀ h2 : pm_H, h2 = sl h (gp h l0 6) (l1 : Int32).toNatClampNeg l5 →
    Wp G (m_X12_cutAll, d + 1, 0, 0, post) (0, 0) 17 [.ref l0, .int (l1 + 1), .int l2, .null, .null, .null, .null] [] h2) :
    Wp G (m_X12_cutAll, d + 1, 0, 0, post) (0, 0) 265 [.ref l0, .int l1, .int l2, .null, .null, .long l5, .null] [] h := by
  refine w_aload_n dX12_cutAll_265 rfl ?_
  obtain ⟨e1, w⟩ := w
  refine w_getp dX12_cutAll_266 lk_RX12_30 e1 rfl ?_
  refine w_iload_n dX12_cutAll_269 rfl ?_
  refine w_lload dX12_cutAll_270 rfl ?_
  obtain ⟨n1, ln1, w⟩ := w
  obtain ⟨e3, w⟩ := w
  refine w_last dX12_cutAll_272 ln1 e3 ?_
  have w := w _ rfl
  refine v_iinc (l' := [.ref l0, .int (l1 + 1), .int l2, .null, .null, .long l5, .null]) (v := l1 + 1) dX12_cutAll_273 rfl rfl (Nat.le_of_ble_eq_true rfl) rfl ?_
  refine w_goto (tgt := 17) dX12_cutAll_276 rfl ?_
  exact w_drop (l' := [.ref l0, .int (l1 + 1), .int l2, .null, .null, .null, .null]) ⟨Or.inr rfl, Or.inr rfl, Or.inr rfl, Or.inl rfl, Or.inl rfl, Or.inl rfl, Or.inl rfl, trivial⟩ w
set_option maxRecDepth 20000 in
set_option maxHeartbeats 4000000 in
theorem x_X12_wrong {G : pm_G} {d : Nat} {post : pm_PT} {h : pm_H} {l0 : Nat} {l1 : Int32} (w :
    (h.1[l0]? = some (0, 11)) ∧
    if (gi h l0 8) = 0 then (
      ∃ n1 : Nat, h.1[gp h l0 5]? = some (1, n1) ∧
      (vp_in (gi h l0 7) n1) ∧
      ∀ h2 : pm_H, h2 = si h l0 8 (l1 + (16 * (gi h (gp h l0 5) (gi h l0 7 : Int32).toNatClampNeg))) →
      post none h2
    ) else (
      post none h
    )) :
    Wp G (m_X12_wrong, d + 1, 0, 0, post) (0, 0) 0 [.ref l0, .int l1] [] h := by
  refine w_aload_n dX12_wrong_0 rfl ?_
  obtain ⟨e1, w⟩ := w
  refine w_geti dX12_wrong_1 lk_RX12_146 e1 rfl ?_
  refine w_if_ne (tgt := 25) dX12_wrong_4 rfl (fun c => ?_) (fun c => ?_)
  · rw [if_neg c] at w
    exact w_return dX12_wrong_25 rfl ⟨Nat.le_refl _, Nat.le_refl _⟩ w
  · rw [if_pos c] at w
    refine w_aload_n dX12_wrong_7 rfl ?_
    refine w_iload_n dX12_wrong_8 rfl ?_
    refine w_bipush (v := 16) dX12_wrong_9 rfl ?_
    refine w_aload_n dX12_wrong_11 rfl ?_
    refine w_getp dX12_wrong_12 lk_RX12_27 e1 rfl ?_
    refine w_aload_n dX12_wrong_15 rfl ?_
    refine w_geti dX12_wrong_16 lk_RX12_143 e1 rfl ?_
    obtain ⟨n1, ln1, w⟩ := w
    obtain ⟨e3, w⟩ := w
    refine w_iald dX12_wrong_19 ln1 e3 ?_
    refine w_imul dX12_wrong_20 ?_
    refine w_iadd dX12_wrong_21 ?_
    refine w_puti dX12_wrong_22 lk_RX12_146 e1 rfl (Or.inl rfl) ?_
    have w := w _ rfl
    exact w_return dX12_wrong_25 rfl ⟨Nat.le_refl _, Nat.le_refl _⟩ w
set_option maxRecDepth 20000 in
set_option maxHeartbeats 4000000 in
theorem x_X12_isSign {G : pm_G} {d : Nat} {post : pm_PT} {h : pm_H} {l0 : Nat} {l1 : Int32} (w :
    (h.1[l0]? = some (0, 11)) ∧
    if (gi h l0 8) = 0 then (
      ∃ n1 : Nat, h.1[gp h l0 4]? = some (1, n1) ∧
      (vp_in (gi h l0 7) n1) ∧
      if (gi h (gp h l0 4) (gi h l0 7 : Int32).toNatClampNeg) = 3 then (
        ∃ n2 : Nat, h.1[gp h l0 6]? = some (2, n2) ∧
        (vp_in (gi h l0 7) n2) ∧
        if (lg_cmp (gj h (gp h l0 6) (gi h l0 7 : Int32).toNatClampNeg) ((l1 : Int32).toInt64)) = 0 then (
          post (some (.int 1)) h
        ) else (
          post (some (.int 0)) h
        )
      ) else (
        post (some (.int 0)) h
      )
    ) else (
      post (some (.int 0)) h
    )) :
    Wp G (m_X12_isSign, d + 1, 0, 0, post) (0, 0) 0 [.ref l0, .int l1] [] h := by
  refine w_aload_n dX12_isSign_0 rfl ?_
  obtain ⟨e1, w⟩ := w
  refine w_geti dX12_isSign_1 lk_RX12_146 e1 rfl ?_
  refine w_if_ne (tgt := 39) dX12_isSign_4 rfl (fun c => ?_) (fun c => ?_)
  · rw [if_neg c] at w
    refine w_iconst (v := 0) dX12_isSign_39 rfl ?_
    exact w_ireturn dX12_isSign_40 rfl rfl ⟨Nat.le_refl _, Nat.le_refl _⟩ w
  · rw [if_pos c] at w
    refine w_aload_n dX12_isSign_7 rfl ?_
    refine w_getp dX12_isSign_8 lk_RX12_24 e1 rfl ?_
    refine w_aload_n dX12_isSign_11 rfl ?_
    refine w_geti dX12_isSign_12 lk_RX12_143 e1 rfl ?_
    obtain ⟨n1, ln1, w⟩ := w
    obtain ⟨e3, w⟩ := w
    refine w_iald dX12_isSign_15 ln1 e3 ?_
    refine w_iconst (v := 3) dX12_isSign_16 rfl ?_
    refine w_ic_ne (tgt := 39) dX12_isSign_17 rfl (fun c => ?_) (fun c => ?_)
    · rw [if_neg c] at w
      refine w_iconst (v := 0) dX12_isSign_39 rfl ?_
      exact w_ireturn dX12_isSign_40 rfl rfl ⟨Nat.le_refl _, Nat.le_refl _⟩ w
    · rw [if_pos c] at w
      refine w_aload_n dX12_isSign_20 rfl ?_
      refine w_getp dX12_isSign_21 lk_RX12_30 e1 rfl ?_
      refine w_aload_n dX12_isSign_24 rfl ?_
      refine w_geti dX12_isSign_25 lk_RX12_143 e1 rfl ?_
      obtain ⟨n2, ln2, w⟩ := w
      obtain ⟨e5, w⟩ := w
      refine w_lald dX12_isSign_28 ln2 e5 ?_
      refine w_iload_n dX12_isSign_29 rfl ?_
      refine w_i2l dX12_isSign_30 ?_
      refine w_lcmp dX12_isSign_31 ?_
      refine w_if_ne (tgt := 39) dX12_isSign_32 rfl (fun c => ?_) (fun c => ?_)
      · rw [if_neg c] at w
        refine w_iconst (v := 0) dX12_isSign_39 rfl ?_
        exact w_ireturn dX12_isSign_40 rfl rfl ⟨Nat.le_refl _, Nat.le_refl _⟩ w
      · rw [if_pos c] at w
        refine w_iconst (v := 1) dX12_isSign_35 rfl ?_
        refine w_goto (tgt := 40) dX12_isSign_36 rfl ?_
        exact w_ireturn dX12_isSign_40 rfl rfl ⟨Nat.le_refl _, Nat.le_refl _⟩ w
set_option maxRecDepth 20000 in
set_option maxHeartbeats 4000000 in
theorem x_X12_isWord {G : pm_G} {d : Nat} {post : pm_PT} {h : pm_H} {l0 : Nat} {l1 : Int32} (w :
    (h.1[l0]? = some (0, 11)) ∧
    if (gi h l0 8) = 0 then (
      ∃ n1 : Nat, h.1[gp h l0 4]? = some (1, n1) ∧
      (vp_in (gi h l0 7) n1) ∧
      if (gi h (gp h l0 4) (gi h l0 7 : Int32).toNatClampNeg) = 1 then (
        ∃ n2 : Nat, h.1[gp h l0 6]? = some (2, n2) ∧
        (vp_in (gi h l0 7) n2) ∧
        ∃ n3 : Nat, h.1[gp h l0 9]? = some (2, n3) ∧
        (vp_in l1 n3) ∧
        if (lg_cmp (gj h (gp h l0 6) (gi h l0 7 : Int32).toNatClampNeg) (gj h (gp h l0 9) (l1 : Int32).toNatClampNeg)) = 0 then (
          post (some (.int 1)) h
        ) else (
          post (some (.int 0)) h
        )
      ) else (
        post (some (.int 0)) h
      )
    ) else (
      post (some (.int 0)) h
    )) :
    Wp G (m_X12_isWord, d + 1, 0, 0, post) (0, 0) 0 [.ref l0, .int l1] [] h := by
  refine w_aload_n dX12_isWord_0 rfl ?_
  obtain ⟨e1, w⟩ := w
  refine w_geti dX12_isWord_1 lk_RX12_146 e1 rfl ?_
  refine w_if_ne (tgt := 43) dX12_isWord_4 rfl (fun c => ?_) (fun c => ?_)
  · rw [if_neg c] at w
    refine w_iconst (v := 0) dX12_isWord_43 rfl ?_
    exact w_ireturn dX12_isWord_44 rfl rfl ⟨Nat.le_refl _, Nat.le_refl _⟩ w
  · rw [if_pos c] at w
    refine w_aload_n dX12_isWord_7 rfl ?_
    refine w_getp dX12_isWord_8 lk_RX12_24 e1 rfl ?_
    refine w_aload_n dX12_isWord_11 rfl ?_
    refine w_geti dX12_isWord_12 lk_RX12_143 e1 rfl ?_
    obtain ⟨n1, ln1, w⟩ := w
    obtain ⟨e3, w⟩ := w
    refine w_iald dX12_isWord_15 ln1 e3 ?_
    refine w_iconst (v := 1) dX12_isWord_16 rfl ?_
    refine w_ic_ne (tgt := 43) dX12_isWord_17 rfl (fun c => ?_) (fun c => ?_)
    · rw [if_neg c] at w
      refine w_iconst (v := 0) dX12_isWord_43 rfl ?_
      exact w_ireturn dX12_isWord_44 rfl rfl ⟨Nat.le_refl _, Nat.le_refl _⟩ w
    · rw [if_pos c] at w
      refine w_aload_n dX12_isWord_20 rfl ?_
      refine w_getp dX12_isWord_21 lk_RX12_30 e1 rfl ?_
      refine w_aload_n dX12_isWord_24 rfl ?_
      refine w_geti dX12_isWord_25 lk_RX12_143 e1 rfl ?_
      obtain ⟨n2, ln2, w⟩ := w
      obtain ⟨e5, w⟩ := w
      refine w_lald dX12_isWord_28 ln2 e5 ?_
      refine w_aload_n dX12_isWord_29 rfl ?_
      refine w_getp dX12_isWord_30 lk_RX12_76 e1 rfl ?_
      refine w_iload_n dX12_isWord_33 rfl ?_
      obtain ⟨n3, ln3, w⟩ := w
      obtain ⟨e7, w⟩ := w
      refine w_lald dX12_isWord_34 ln3 e7 ?_
      refine w_lcmp dX12_isWord_35 ?_
      refine w_if_ne (tgt := 43) dX12_isWord_36 rfl (fun c => ?_) (fun c => ?_)
      · rw [if_neg c] at w
        refine w_iconst (v := 0) dX12_isWord_43 rfl ?_
        exact w_ireturn dX12_isWord_44 rfl rfl ⟨Nat.le_refl _, Nat.le_refl _⟩ w
      · rw [if_pos c] at w
        refine w_iconst (v := 1) dX12_isWord_39 rfl ?_
        refine w_goto (tgt := 44) dX12_isWord_40 rfl ?_
        exact w_ireturn dX12_isWord_44 rfl rfl ⟨Nat.le_refl _, Nat.le_refl _⟩ w
set_option maxRecDepth 20000 in
set_option maxHeartbeats 4000000 in
theorem x_X12_takeSign {G : pm_G} {d : Nat} {post : pm_PT} {h : pm_H} {l0 : Nat} {l1 : Int32} (w :
    (h.1[l0]? = some (0, 11)) ∧
    ci G d m_X12_isSign [.ref l0, .int l1] h fun r1 h2 =>
    if r1 = 0 then (
      (h2.1[l0]? = some (0, 11)) ∧
      cv G d m_X12_wrong [.ref l0, .int 1] h2 fun h4 =>
      post none h4
    ) else (
      (h2.1[l0]? = some (0, 11)) ∧
      ∀ h5 : pm_H, h5 = si h2 l0 7 ((gi h2 l0 7) + 1) →
      post none h5
    )) :
    Wp G (m_X12_takeSign, d + 1, 0, 0, post) (0, 0) 0 [.ref l0, .int l1] [] h := by
  refine w_aload_n dX12_takeSign_0 rfl ?_
  refine w_iload_n dX12_takeSign_1 rfl ?_
  obtain ⟨e1, w⟩ := w
  refine w_callV (As := [.int l1]) (st := []) dX12_takeSign_2 mt_X12_isSign g_1659 g_1661 g_94 rfl e1 rfl rfl (Nat.le_of_ble_eq_true rfl) (Nat.le_refl _) ⟨Nat.le_refl _, Nat.le_refl _⟩ w ?_
  rintro v h2 ⟨r1, rfl, w⟩
  refine w_if_eq (tgt := 21) dX12_takeSign_5 rfl (fun c => ?_) (fun c => ?_)
  · rw [if_pos c] at w
    refine w_aload_n dX12_takeSign_21 rfl ?_
    refine w_iconst (v := 1) dX12_takeSign_22 rfl ?_
    obtain ⟨e1, w⟩ := w
    refine w_callV (As := [.int 1]) (st := []) dX12_takeSign_23 mt_X12_wrong g_1595 g_1597 g_78 rfl e1 rfl rfl (Nat.le_of_ble_eq_true rfl) (Nat.le_refl _) ⟨Nat.le_refl _, Nat.le_refl _⟩ w ?_
    rintro v h4 ⟨rfl, w⟩
    exact w_return dX12_takeSign_26 rfl ⟨Nat.le_refl _, Nat.le_refl _⟩ w
  · rw [if_neg c] at w
    refine w_aload_n dX12_takeSign_8 rfl ?_
    refine w_dup dX12_takeSign_9 rfl ?_
    obtain ⟨e1, w⟩ := w
    refine w_geti dX12_takeSign_10 lk_RX12_143 e1 rfl ?_
    refine w_iconst (v := 1) dX12_takeSign_13 rfl ?_
    refine w_iadd dX12_takeSign_14 ?_
    refine w_puti dX12_takeSign_15 lk_RX12_143 e1 rfl (Or.inl rfl) ?_
    have w := w _ rfl
    refine w_goto (tgt := 26) dX12_takeSign_18 rfl ?_
    exact w_return dX12_takeSign_26 rfl ⟨Nat.le_refl _, Nat.le_refl _⟩ w
set_option maxRecDepth 20000 in
set_option maxHeartbeats 4000000 in
theorem x_X12_hasSign {G : pm_G} {d : Nat} {post : pm_PT} {h : pm_H} {l0 : Nat} {l1 : Int32} (w :
    (h.1[l0]? = some (0, 11)) ∧
    ci G d m_X12_isSign [.ref l0, .int l1] h fun r1 h2 =>
    (h2.1[l0]? = some (0, 11)) ∧
    if r1 = 0 then (
      ∀ h3 : pm_H, h3 = si h2 l0 7 ((gi h2 l0 7) + 0) →
      (r1 = 0 ∨ r1 = 1) ∧
      post (some (.int r1)) h3
    ) else (
      ∀ h4 : pm_H, h4 = si h2 l0 7 ((gi h2 l0 7) + 1) →
      (r1 = 0 ∨ r1 = 1) ∧
      post (some (.int r1)) h4
    )) :
    Wp G (m_X12_hasSign, d + 1, 0, 0, post) (0, 0) 0 [.ref l0, .int l1, .null] [] h := by
  refine w_aload_n dX12_hasSign_0 rfl ?_
  refine w_iload_n dX12_hasSign_1 rfl ?_
  obtain ⟨e1, w⟩ := w
  refine w_callV (As := [.int l1]) (st := []) dX12_hasSign_2 mt_X12_isSign g_1659 g_1661 g_94 rfl e1 rfl rfl (Nat.le_of_ble_eq_true rfl) (Nat.le_refl _) ⟨Nat.le_refl _, Nat.le_refl _⟩ w ?_
  rintro v h2 ⟨r1, rfl, w⟩
  refine v_istore_n (l' := [.ref l0, .int l1, .int r1]) dX12_hasSign_5 (Nat.le_of_ble_eq_true rfl) rfl ?_
  refine w_aload_n dX12_hasSign_6 rfl ?_
  refine w_dup dX12_hasSign_7 rfl ?_
  obtain ⟨e1, w⟩ := w
  refine w_geti dX12_hasSign_8 lk_RX12_143 e1 rfl ?_
  refine w_iload_n dX12_hasSign_11 rfl ?_
  refine w_if_eq (tgt := 19) dX12_hasSign_12 rfl (fun c => ?_) (fun c => ?_)
  · rw [if_pos c] at w
    refine w_iconst (v := 0) dX12_hasSign_19 rfl ?_
    refine w_iadd dX12_hasSign_20 ?_
    refine w_puti dX12_hasSign_21 lk_RX12_143 e1 rfl (Or.inl rfl) ?_
    have w := w _ rfl
    refine w_iload_n dX12_hasSign_24 rfl ?_
    obtain ⟨e2, w⟩ := w
    exact w_ireturn dX12_hasSign_25 rfl (pm_nz e2) ⟨Nat.le_refl _, Nat.le_refl _⟩ w
  · rw [if_neg c] at w
    refine w_iconst (v := 1) dX12_hasSign_15 rfl ?_
    refine w_goto (tgt := 20) dX12_hasSign_16 rfl ?_
    refine w_iadd dX12_hasSign_20 ?_
    refine w_puti dX12_hasSign_21 lk_RX12_143 e1 rfl (Or.inl rfl) ?_
    have w := w _ rfl
    refine w_iload_n dX12_hasSign_24 rfl ?_
    obtain ⟨e2, w⟩ := w
    exact w_ireturn dX12_hasSign_25 rfl (pm_nz e2) ⟨Nat.le_refl _, Nat.le_refl _⟩ w
set_option maxRecDepth 20000 in
set_option maxHeartbeats 4000000 in
theorem x_X12_hasWord {G : pm_G} {d : Nat} {post : pm_PT} {h : pm_H} {l0 : Nat} {l1 : Int32} (w :
    (h.1[l0]? = some (0, 11)) ∧
    ci G d m_X12_isWord [.ref l0, .int l1] h fun r1 h2 =>
    (h2.1[l0]? = some (0, 11)) ∧
    if r1 = 0 then (
      ∀ h3 : pm_H, h3 = si h2 l0 7 ((gi h2 l0 7) + 0) →
      (r1 = 0 ∨ r1 = 1) ∧
      post (some (.int r1)) h3
    ) else (
      ∀ h4 : pm_H, h4 = si h2 l0 7 ((gi h2 l0 7) + 1) →
      (r1 = 0 ∨ r1 = 1) ∧
      post (some (.int r1)) h4
    )) :
    Wp G (m_X12_hasWord, d + 1, 0, 0, post) (0, 0) 0 [.ref l0, .int l1, .null] [] h := by
  refine w_aload_n dX12_hasWord_0 rfl ?_
  refine w_iload_n dX12_hasWord_1 rfl ?_
  obtain ⟨e1, w⟩ := w
  refine w_callV (As := [.int l1]) (st := []) dX12_hasWord_2 mt_X12_isWord g_1583 g_1585 g_75 rfl e1 rfl rfl (Nat.le_of_ble_eq_true rfl) (Nat.le_refl _) ⟨Nat.le_refl _, Nat.le_refl _⟩ w ?_
  rintro v h2 ⟨r1, rfl, w⟩
  refine v_istore_n (l' := [.ref l0, .int l1, .int r1]) dX12_hasWord_5 (Nat.le_of_ble_eq_true rfl) rfl ?_
  refine w_aload_n dX12_hasWord_6 rfl ?_
  refine w_dup dX12_hasWord_7 rfl ?_
  obtain ⟨e1, w⟩ := w
  refine w_geti dX12_hasWord_8 lk_RX12_143 e1 rfl ?_
  refine w_iload_n dX12_hasWord_11 rfl ?_
  refine w_if_eq (tgt := 19) dX12_hasWord_12 rfl (fun c => ?_) (fun c => ?_)
  · rw [if_pos c] at w
    refine w_iconst (v := 0) dX12_hasWord_19 rfl ?_
    refine w_iadd dX12_hasWord_20 ?_
    refine w_puti dX12_hasWord_21 lk_RX12_143 e1 rfl (Or.inl rfl) ?_
    have w := w _ rfl
    refine w_iload_n dX12_hasWord_24 rfl ?_
    obtain ⟨e2, w⟩ := w
    exact w_ireturn dX12_hasWord_25 rfl (pm_nz e2) ⟨Nat.le_refl _, Nat.le_refl _⟩ w
  · rw [if_neg c] at w
    refine w_iconst (v := 1) dX12_hasWord_15 rfl ?_
    refine w_goto (tgt := 20) dX12_hasWord_16 rfl ?_
    refine w_iadd dX12_hasWord_20 ?_
    refine w_puti dX12_hasWord_21 lk_RX12_143 e1 rfl (Or.inl rfl) ?_
    have w := w _ rfl
    refine w_iload_n dX12_hasWord_24 rfl ?_
    obtain ⟨e2, w⟩ := w
    exact w_ireturn dX12_hasWord_25 rfl (pm_nz e2) ⟨Nat.le_refl _, Nat.le_refl _⟩ w
set_option maxRecDepth 20000 in
set_option maxHeartbeats 4000000 in
theorem x_X12_takeWord {G : pm_G} {d : Nat} {post : pm_PT} {h : pm_H} {l0 : Nat} {l1 : Int32} (w :
    (h.1[l0]? = some (0, 11)) ∧
    ci G d m_X12_hasWord [.ref l0, .int l1] h fun r1 h2 =>
    if r1 = 0 then (
      (h2.1[l0]? = some (0, 11)) ∧
      cv G d m_X12_wrong [.ref l0, .int 1] h2 fun h4 =>
      post none h4
    ) else (
      post none h2
    )) :
    Wp G (m_X12_takeWord, d + 1, 0, 0, post) (0, 0) 0 [.ref l0, .int l1] [] h := by
  refine w_aload_n dX12_takeWord_0 rfl ?_
  refine w_iload_n dX12_takeWord_1 rfl ?_
  obtain ⟨e1, w⟩ := w
  refine w_callV (As := [.int l1]) (st := []) dX12_takeWord_2 mt_X12_hasWord g_1627 g_1629 g_86 rfl e1 rfl rfl (Nat.le_of_ble_eq_true rfl) (Nat.le_refl _) ⟨Nat.le_refl _, Nat.le_refl _⟩ w ?_
  rintro v h2 ⟨r1, rfl, w⟩
  refine w_if_ne (tgt := 13) dX12_takeWord_5 rfl (fun c => ?_) (fun c => ?_)
  · rw [if_neg c] at w
    exact w_return dX12_takeWord_13 rfl ⟨Nat.le_refl _, Nat.le_refl _⟩ w
  · rw [if_pos c] at w
    refine w_aload_n dX12_takeWord_8 rfl ?_
    refine w_iconst (v := 1) dX12_takeWord_9 rfl ?_
    obtain ⟨e1, w⟩ := w
    refine w_callV (As := [.int 1]) (st := []) dX12_takeWord_10 mt_X12_wrong g_1595 g_1597 g_78 rfl e1 rfl rfl (Nat.le_of_ble_eq_true rfl) (Nat.le_refl _) ⟨Nat.le_refl _, Nat.le_refl _⟩ w ?_
    rintro v h4 ⟨rfl, w⟩
    exact w_return dX12_takeWord_13 rfl ⟨Nat.le_refl _, Nat.le_refl _⟩ w
set_option maxRecDepth 20000 in
set_option maxHeartbeats 4000000 in
theorem x_X12_within {G : pm_G} {d : Nat} {post : pm_PT} {h : pm_H} {l0 : Int32} {l1 : Int32} {l2 : Int32} (w :
    if l0 < l1 then (
      post (some (.int 0)) h
    ) else (
      if l2 < l0 then (
        post (some (.int 0)) h
      ) else (
        post (some (.int 1)) h
      )
    )) :
    Wp G (m_X12_within, d + 1, 0, 0, post) (0, 0) 0 [.int l0, .int l1, .int l2] [] h := by
  refine w_iload_n dX12_within_0 rfl ?_
  refine w_iload_n dX12_within_1 rfl ?_
  refine w_ic_lt (tgt := 14) dX12_within_2 rfl (fun c => ?_) (fun c => ?_)
  · rw [if_pos c] at w
    refine w_iconst (v := 0) dX12_within_14 rfl ?_
    exact w_ireturn dX12_within_15 rfl rfl ⟨Nat.le_refl _, Nat.le_refl _⟩ w
  · rw [if_neg c] at w
    refine w_iload_n dX12_within_5 rfl ?_
    refine w_iload_n dX12_within_6 rfl ?_
    refine w_ic_gt (tgt := 14) dX12_within_7 rfl (fun c => ?_) (fun c => ?_)
    · rw [if_pos c] at w
      refine w_iconst (v := 0) dX12_within_14 rfl ?_
      exact w_ireturn dX12_within_15 rfl rfl ⟨Nat.le_refl _, Nat.le_refl _⟩ w
    · rw [if_neg c] at w
      refine w_iconst (v := 1) dX12_within_10 rfl ?_
      refine w_goto (tgt := 15) dX12_within_11 rfl ?_
      exact w_ireturn dX12_within_15 rfl rfl ⟨Nat.le_refl _, Nat.le_refl _⟩ w
set_option maxRecDepth 20000 in
set_option maxHeartbeats 4000000 in
theorem x_X12_standsAsAlways {G : pm_G} {d : Nat} {post : pm_PT} {h : pm_H} {l0 : Nat} {l1 : Int32} (w :
    Wp G (m_X12_standsAsAlways, d + 1, 0, 0, post) (0, 0) 2 [.ref l0, .int l1, .int 0] [] h) :
    Wp G (m_X12_standsAsAlways, d + 1, 0, 0, post) (0, 0) 0 [.ref l0, .int l1, .null] [] h := by
  refine w_iconst (v := 0) dX12_standsAsAlways_0 rfl ?_
  refine v_istore_n (l' := [.ref l0, .int l1, .int 0]) dX12_standsAsAlways_1 (Nat.le_of_ble_eq_true rfl) rfl ?_
  exact w
set_option maxRecDepth 20000 in
set_option maxHeartbeats 4000000 in
theorem x_X12_standsAsAlways_2 {G : pm_G} {d : Nat} {post : pm_PT} {h : pm_H} {l0 : Nat} {l1 : Int32} {l2 : Int32} (w :
    if 90 ≤ l2 then (
      (h.1[l0]? = some (0, 11)) ∧
      ∃ n1 : Nat, h.1[gp h l0 10]? = some (1, n1) ∧
      (vp_in (l1 + 3) n1) ∧
      ∀ h2 : pm_H, h2 = si h (gp h l0 10) (l1 + 3 : Int32).toNatClampNeg 2 →
      ∃ n3 : Nat, h.1[gp h2 l0 10]? = some (1, n3) ∧
      (vp_in (l1 + 4) n3) ∧
      ∀ h4 : pm_H, h4 = si h2 (gp h2 l0 10) (l1 + 4 : Int32).toNatClampNeg (-1) →
      post none h4
    ) else (
      (h.1[l0]? = some (0, 11)) ∧
      ∃ n5 : Nat, h.1[gp h l0 10]? = some (1, n5) ∧
      (vp_in (l1 + l2) n5) ∧
      ∀ h6 : pm_H, h6 = si h (gp h l0 10) (l1 + l2 : Int32).toNatClampNeg 0 →
      Wp G (m_X12_standsAsAlways, d + 1, 0, 0, post) (0, 0) 2 [.ref l0, .int l1, .int (l2 + 1)] [] h6
    )) :
    Wp G (m_X12_standsAsAlways, d + 1, 0, 0, post) (0, 0) 2 [.ref l0, .int l1, .int l2] [] h := by
  refine w_iload_n dX12_standsAsAlways_2 rfl ?_
  refine w_bipush (v := 90) dX12_standsAsAlways_3 rfl ?_
  refine w_ic_ge (tgt := 23) dX12_standsAsAlways_5 rfl (fun c => ?_) (fun c => ?_)
  · rw [if_pos c] at w
    refine w_aload_n dX12_standsAsAlways_23 rfl ?_
    obtain ⟨e1, w⟩ := w
    refine w_getp dX12_standsAsAlways_24 lk_RX12_79 e1 rfl ?_
    refine w_iload_n dX12_standsAsAlways_27 rfl ?_
    refine w_iconst (v := 3) dX12_standsAsAlways_28 rfl ?_
    refine w_iadd dX12_standsAsAlways_29 ?_
    refine w_iconst (v := 2) dX12_standsAsAlways_30 rfl ?_
    obtain ⟨n1, ln1, w⟩ := w
    obtain ⟨e3, w⟩ := w
    refine w_iast dX12_standsAsAlways_31 ln1 e3 ?_
    have w := w _ rfl
    refine w_aload_n dX12_standsAsAlways_32 rfl ?_
    refine w_getp dX12_standsAsAlways_33 lk_RX12_79 e1 rfl ?_
    refine w_iload_n dX12_standsAsAlways_36 rfl ?_
    refine w_iconst (v := 4) dX12_standsAsAlways_37 rfl ?_
    refine w_iadd dX12_standsAsAlways_38 ?_
    refine w_iconst (v := (-1)) dX12_standsAsAlways_39 rfl ?_
    obtain ⟨n3, ln3, w⟩ := w
    obtain ⟨e5, w⟩ := w
    refine w_iast dX12_standsAsAlways_40 ln3 e5 ?_
    have w := w _ rfl
    exact w_return dX12_standsAsAlways_41 rfl ⟨Nat.le_refl _, Nat.le_refl _⟩ w
  · rw [if_neg c] at w
    refine w_aload_n dX12_standsAsAlways_8 rfl ?_
    obtain ⟨e1, w⟩ := w
    refine w_getp dX12_standsAsAlways_9 lk_RX12_79 e1 rfl ?_
    refine w_iload_n dX12_standsAsAlways_12 rfl ?_
    refine w_iload_n dX12_standsAsAlways_13 rfl ?_
    refine w_iadd dX12_standsAsAlways_14 ?_
    refine w_iconst (v := 0) dX12_standsAsAlways_15 rfl ?_
    obtain ⟨n5, ln5, w⟩ := w
    obtain ⟨e3, w⟩ := w
    refine w_iast dX12_standsAsAlways_16 ln5 e3 ?_
    have w := w _ rfl
    refine v_iinc (l' := [.ref l0, .int l1, .int (l2 + 1)]) (v := l2 + 1) dX12_standsAsAlways_17 rfl rfl (Nat.le_of_ble_eq_true rfl) rfl ?_
    refine w_goto (tgt := 2) dX12_standsAsAlways_20 rfl ?_
    exact w
set_option maxRecDepth 20000 in
set_option maxHeartbeats 4000000 in
theorem x_X12_takeNumber {G : pm_G} {d : Nat} {post : pm_PT} {h : pm_H} {l0 : Nat} {l1 : Int32} {l2 : Int32} (w :
    (h.1[l0]? = some (0, 11)) ∧
    if (gi h l0 8) = 0 then (
      ∃ n1 : Nat, h.1[gp h l0 4]? = some (1, n1) ∧
      (vp_in (gi h l0 7) n1) ∧
      if (gi h (gp h l0 4) (gi h l0 7 : Int32).toNatClampNeg) = 2 then (
        Wp G (m_X12_takeNumber, d + 1, 0, 0, post) (0, 0) 28 [.ref l0, .int l1, .int l2] [] h
      ) else (
        cv G d m_X12_wrong [.ref l0, .int 1] h fun h3 =>
        Wp G (m_X12_takeNumber, d + 1, 0, 0, post) (0, 0) 70 [.ref l0, .null, .null] [] h3
      )
    ) else (
      Wp G (m_X12_takeNumber, d + 1, 0, 0, post) (0, 0) 28 [.ref l0, .int l1, .int l2] [] h
    )) :
    Wp G (m_X12_takeNumber, d + 1, 0, 0, post) (0, 0) 0 [.ref l0, .int l1, .int l2] [] h := by
  refine w_aload_n dX12_takeNumber_0 rfl ?_
  obtain ⟨e1, w⟩ := w
  refine w_geti dX12_takeNumber_1 lk_RX12_146 e1 rfl ?_
  refine w_if_ne (tgt := 28) dX12_takeNumber_4 rfl (fun c => ?_) (fun c => ?_)
  · rw [if_neg c] at w
    exact w
  · rw [if_pos c] at w
    refine w_aload_n dX12_takeNumber_7 rfl ?_
    refine w_getp dX12_takeNumber_8 lk_RX12_24 e1 rfl ?_
    refine w_aload_n dX12_takeNumber_11 rfl ?_
    refine w_geti dX12_takeNumber_12 lk_RX12_143 e1 rfl ?_
    obtain ⟨n1, ln1, w⟩ := w
    obtain ⟨e3, w⟩ := w
    refine w_iald dX12_takeNumber_15 ln1 e3 ?_
    refine w_iconst (v := 2) dX12_takeNumber_16 rfl ?_
    refine w_ic_eq (tgt := 28) dX12_takeNumber_17 rfl (fun c => ?_) (fun c => ?_)
    · rw [if_pos c] at w
      exact w
    · rw [if_neg c] at w
      refine w_aload_n dX12_takeNumber_20 rfl ?_
      refine w_iconst (v := 1) dX12_takeNumber_21 rfl ?_
      refine w_callV (As := [.int 1]) (st := []) dX12_takeNumber_22 mt_X12_wrong g_1595 g_1597 g_78 rfl e1 rfl rfl (Nat.le_of_ble_eq_true rfl) (Nat.le_refl _) ⟨Nat.le_refl _, Nat.le_refl _⟩ w ?_
      rintro v h3 ⟨rfl, w⟩
      refine w_goto (tgt := 70) dX12_takeNumber_25 rfl ?_
      exact w_drop (l' := [.ref l0, .null, .null]) ⟨Or.inr rfl, Or.inl rfl, Or.inl rfl, trivial⟩ w
set_option maxRecDepth 20000 in
set_option maxHeartbeats 4000000 in
theorem x_X12_takeNumber_28 {G : pm_G} {d : Nat} {post : pm_PT} {h : pm_H} {l0 : Nat} {l1 : Int32} {l2 : Int32} (w :
    (h.1[l0]? = some (0, 11)) ∧
    if (gi h l0 8) = 0 then (
      ∃ n1 : Nat, h.1[gp h l0 6]? = some (2, n1) ∧
      (vp_in (gi h l0 7) n1) ∧
      if (lg_cmp (gj h (gp h l0 6) (gi h l0 7 : Int32).toNatClampNeg) ((l1 : Int32).toInt64)) < 0 then (
        cv G d m_X12_wrong [.ref l0, .int 4] h fun h3 =>
        Wp G (m_X12_takeNumber, d + 1, 0, 0, post) (0, 0) 70 [.ref l0, .null, .null] [] h3
      ) else (
        if (lg_cmp (gj h (gp h l0 6) (gi h l0 7 : Int32).toNatClampNeg) ((l2 : Int32).toInt64)) ≤ 0 then (
          Wp G (m_X12_takeNumber, d + 1, 0, 0, post) (0, 0) 70 [.ref l0, .null, .null] [] h
        ) else (
          cv G d m_X12_wrong [.ref l0, .int 4] h fun h5 =>
          Wp G (m_X12_takeNumber, d + 1, 0, 0, post) (0, 0) 70 [.ref l0, .null, .null] [] h5
        )
      )
    ) else (
      Wp G (m_X12_takeNumber, d + 1, 0, 0, post) (0, 0) 70 [.ref l0, .null, .null] [] h
    )) :
    Wp G (m_X12_takeNumber, d + 1, 0, 0, post) (0, 0) 28 [.ref l0, .int l1, .int l2] [] h := by
  refine w_aload_n dX12_takeNumber_28 rfl ?_
  obtain ⟨e1, w⟩ := w
  refine w_geti dX12_takeNumber_29 lk_RX12_146 e1 rfl ?_
  refine w_if_ne (tgt := 70) dX12_takeNumber_32 rfl (fun c => ?_) (fun c => ?_)
  · rw [if_neg c] at w
    exact w_drop (l' := [.ref l0, .null, .null]) ⟨Or.inr rfl, Or.inl rfl, Or.inl rfl, trivial⟩ w
  · rw [if_pos c] at w
    refine w_aload_n dX12_takeNumber_35 rfl ?_
    refine w_getp dX12_takeNumber_36 lk_RX12_30 e1 rfl ?_
    refine w_aload_n dX12_takeNumber_39 rfl ?_
    refine w_geti dX12_takeNumber_40 lk_RX12_143 e1 rfl ?_
    obtain ⟨n1, ln1, w⟩ := w
    obtain ⟨e3, w⟩ := w
    refine w_lald dX12_takeNumber_43 ln1 e3 ?_
    refine w_iload_n dX12_takeNumber_44 rfl ?_
    refine w_i2l dX12_takeNumber_45 ?_
    refine w_lcmp dX12_takeNumber_46 ?_
    refine w_if_lt (tgt := 65) dX12_takeNumber_47 rfl (fun c => ?_) (fun c => ?_)
    · rw [if_pos c] at w
      refine w_aload_n dX12_takeNumber_65 rfl ?_
      refine w_iconst (v := 4) dX12_takeNumber_66 rfl ?_
      refine w_callV (As := [.int 4]) (st := []) dX12_takeNumber_67 mt_X12_wrong g_1595 g_1597 g_78 rfl e1 rfl rfl (Nat.le_of_ble_eq_true rfl) (Nat.le_refl _) ⟨Nat.le_refl _, Nat.le_refl _⟩ w ?_
      rintro v h3 ⟨rfl, w⟩
      exact w_drop (l' := [.ref l0, .null, .null]) ⟨Or.inr rfl, Or.inl rfl, Or.inl rfl, trivial⟩ w
    · rw [if_neg c] at w
      refine w_aload_n dX12_takeNumber_50 rfl ?_
      refine w_getp dX12_takeNumber_51 lk_RX12_30 e1 rfl ?_
      refine w_aload_n dX12_takeNumber_54 rfl ?_
      refine w_geti dX12_takeNumber_55 lk_RX12_143 e1 rfl ?_
      refine w_lald dX12_takeNumber_58 ln1 e3 ?_
      refine w_iload_n dX12_takeNumber_59 rfl ?_
      refine w_i2l dX12_takeNumber_60 ?_
      refine w_lcmp dX12_takeNumber_61 ?_
      refine w_if_le (tgt := 70) dX12_takeNumber_62 rfl (fun c => ?_) (fun c => ?_)
      · rw [if_pos c] at w
        exact w_drop (l' := [.ref l0, .null, .null]) ⟨Or.inr rfl, Or.inl rfl, Or.inl rfl, trivial⟩ w
      · rw [if_neg c] at w
        refine w_aload_n dX12_takeNumber_65 rfl ?_
        refine w_iconst (v := 4) dX12_takeNumber_66 rfl ?_
        refine w_callV (As := [.int 4]) (st := []) dX12_takeNumber_67 mt_X12_wrong g_1595 g_1597 g_78 rfl e1 rfl rfl (Nat.le_of_ble_eq_true rfl) (Nat.le_refl _) ⟨Nat.le_refl _, Nat.le_refl _⟩ w ?_
        rintro v h5 ⟨rfl, w⟩
        exact w_drop (l' := [.ref l0, .null, .null]) ⟨Or.inr rfl, Or.inl rfl, Or.inl rfl, trivial⟩ w
set_option maxRecDepth 20000 in
set_option maxHeartbeats 4000000 in
theorem x_X12_takeNumber_70 {G : pm_G} {d : Nat} {post : pm_PT} {h : pm_H} {l0 : Nat} (w :
    (h.1[l0]? = some (0, 11)) ∧
    if (gi h l0 8) ≤ 0 then (
      ∀ h1 : pm_H, h1 = si h l0 7 ((gi h l0 7) + 1) →
      ∃ n2 : Nat, h.1[gp h1 l0 6]? = some (2, n2) ∧
      (vp_in ((gi h1 l0 7) - 1) n2) ∧
      post (some (.int ((gj h1 (gp h1 l0 6) ((gi h1 l0 7) - 1 : Int32).toNatClampNeg : Int64).toInt32))) h1
    ) else (
      post (some (.int 0)) h
    )) :
    Wp G (m_X12_takeNumber, d + 1, 0, 0, post) (0, 0) 70 [.ref l0, .null, .null] [] h := by
  refine w_aload_n dX12_takeNumber_70 rfl ?_
  obtain ⟨e1, w⟩ := w
  refine w_geti dX12_takeNumber_71 lk_RX12_146 e1 rfl ?_
  refine w_if_le (tgt := 79) dX12_takeNumber_74 rfl (fun c => ?_) (fun c => ?_)
  · rw [if_pos c] at w
    refine w_aload_n dX12_takeNumber_79 rfl ?_
    refine w_dup dX12_takeNumber_80 rfl ?_
    refine w_geti dX12_takeNumber_81 lk_RX12_143 e1 rfl ?_
    refine w_iconst (v := 1) dX12_takeNumber_84 rfl ?_
    refine w_iadd dX12_takeNumber_85 ?_
    refine w_puti dX12_takeNumber_86 lk_RX12_143 e1 rfl (Or.inl rfl) ?_
    have w := w _ rfl
    refine w_aload_n dX12_takeNumber_89 rfl ?_
    refine w_getp dX12_takeNumber_90 lk_RX12_30 e1 rfl ?_
    refine w_aload_n dX12_takeNumber_93 rfl ?_
    refine w_geti dX12_takeNumber_94 lk_RX12_143 e1 rfl ?_
    refine w_iconst (v := 1) dX12_takeNumber_97 rfl ?_
    refine w_isub dX12_takeNumber_98 ?_
    obtain ⟨n2, ln2, w⟩ := w
    obtain ⟨e3, w⟩ := w
    refine w_lald dX12_takeNumber_99 ln2 e3 ?_
    refine w_l2i dX12_takeNumber_100 ?_
    exact w_ireturn dX12_takeNumber_101 rfl rfl ⟨Nat.le_refl _, Nat.le_refl _⟩ w
  · rw [if_neg c] at w
    refine w_iconst (v := 0) dX12_takeNumber_77 rfl ?_
    exact w_ireturn dX12_takeNumber_78 rfl rfl ⟨Nat.le_refl _, Nat.le_refl _⟩ w
set_option maxRecDepth 20000 in
set_option maxHeartbeats 4000000 in
theorem x_X12_wordHere {G : pm_G} {d : Nat} {post : pm_PT} {h : pm_H} {l0 : Nat} {l1 : Int32} {l2 : Int32} (w :
    Wp G (m_X12_wordHere, d + 1, 0, 0, post) (0, 0) 5 [.ref l0, .int l1, .int l2, .int (-1), .int 0] [] h) :
    Wp G (m_X12_wordHere, d + 1, 0, 0, post) (0, 0) 0 [.ref l0, .int l1, .int l2, .null, .null] [] h := by
  refine w_iconst (v := (-1)) dX12_wordHere_0 rfl ?_
  refine v_istore_n (l' := [.ref l0, .int l1, .int l2, .int (-1), .null]) dX12_wordHere_1 (Nat.le_of_ble_eq_true rfl) rfl ?_
  refine w_iconst (v := 0) dX12_wordHere_2 rfl ?_
  refine v_istore (l' := [.ref l0, .int l1, .int l2, .int (-1), .int 0]) dX12_wordHere_3 (Nat.le_of_ble_eq_true rfl) rfl ?_
  exact w
set_option maxRecDepth 20000 in
set_option maxHeartbeats 4000000 in
theorem x_X12_wordHere_5 {G : pm_G} {d : Nat} {post : pm_PT} {h : pm_H} {l0 : Nat} {l1 : Int32} {l2 : Int32} {l3 : Int32} {l4 : Int32} (w :
    if l2 ≤ l4 then (
      post (some (.int l3)) h
    ) else (
      (h.1[l0]? = some (0, 11)) ∧
      ci G d m_X12_isWord [.ref l0, .int (l1 + l4)] h fun r1 h2 =>
      if r1 = 0 then (
        Wp G (m_X12_wordHere, d + 1, 0, 0, post) (0, 0) 5 [.ref l0, .int l1, .int l2, .int l3, .int (l4 + 1)] [] h2
      ) else (
        Wp G (m_X12_wordHere, d + 1, 0, 0, post) (0, 0) 5 [.ref l0, .int l1, .int l2, .int l4, .int (l4 + 1)] [] h2
      )
    )) :
    Wp G (m_X12_wordHere, d + 1, 0, 0, post) (0, 0) 5 [.ref l0, .int l1, .int l2, .int l3, .int l4] [] h := by
  refine w_iload dX12_wordHere_5 rfl ?_
  refine w_iload_n dX12_wordHere_7 rfl ?_
  refine w_ic_ge (tgt := 35) dX12_wordHere_8 rfl (fun c => ?_) (fun c => ?_)
  · rw [if_pos c] at w
    refine w_iload_n dX12_wordHere_35 rfl ?_
    exact w_ireturn dX12_wordHere_36 rfl rfl ⟨Nat.le_refl _, Nat.le_refl _⟩ w
  · rw [if_neg c] at w
    refine w_aload_n dX12_wordHere_11 rfl ?_
    refine w_iload_n dX12_wordHere_12 rfl ?_
    refine w_iload dX12_wordHere_13 rfl ?_
    refine w_iadd dX12_wordHere_15 ?_
    obtain ⟨e1, w⟩ := w
    refine w_callV (As := [.int (l1 + l4)]) (st := []) dX12_wordHere_16 mt_X12_isWord g_1583 g_1585 g_75 rfl e1 rfl rfl (Nat.le_of_ble_eq_true rfl) (Nat.le_refl _) ⟨Nat.le_refl _, Nat.le_refl _⟩ w ?_
    rintro v h2 ⟨r1, rfl, w⟩
    refine w_if_eq (tgt := 27) dX12_wordHere_19 rfl (fun c => ?_) (fun c => ?_)
    · rw [if_pos c] at w
      refine w_iload_n dX12_wordHere_27 rfl ?_
      refine v_istore_n (l' := [.ref l0, .int l1, .int l2, .int l3, .int l4]) dX12_wordHere_28 (Nat.le_of_ble_eq_true rfl) rfl ?_
      refine v_iinc (l' := [.ref l0, .int l1, .int l2, .int l3, .int (l4 + 1)]) (v := l4 + 1) dX12_wordHere_29 rfl rfl (Nat.le_of_ble_eq_true rfl) rfl ?_
      refine w_goto (tgt := 5) dX12_wordHere_32 rfl ?_
      exact w
    · rw [if_neg c] at w
      refine w_iload dX12_wordHere_22 rfl ?_
      refine w_goto (tgt := 28) dX12_wordHere_24 rfl ?_
      refine v_istore_n (l' := [.ref l0, .int l1, .int l2, .int l4, .int l4]) dX12_wordHere_28 (Nat.le_of_ble_eq_true rfl) rfl ?_
      refine v_iinc (l' := [.ref l0, .int l1, .int l2, .int l4, .int (l4 + 1)]) (v := l4 + 1) dX12_wordHere_29 rfl rfl (Nat.le_of_ble_eq_true rfl) rfl ?_
      refine w_goto (tgt := 5) dX12_wordHere_32 rfl ?_
      exact w
set_option maxRecDepth 20000 in
set_option maxHeartbeats 4000000 in
theorem x_X12_takeOne {G : pm_G} {d : Nat} {post : pm_PT} {h : pm_H} {l0 : Nat} {l1 : Int32} {l2 : Int32} (w :
    (h.1[l0]? = some (0, 11)) ∧
    if (gi h l0 8) ≤ 0 then (
      ci G d m_X12_wordHere [.ref l0, .int l1, .int l2] h fun r1 h2 =>
      (h2.1[l0]? = some (0, 11)) ∧
      if (gi h2 l0 8) = 0 then (
        if 0 ≤ r1 then (
          Wp G (m_X12_takeOne, d + 1, 0, 0, post) (0, 0) 34 [.ref l0, .null, .null, .int r1] [] h2
        ) else (
          cv G d m_X12_wrong [.ref l0, .int 1] h2 fun h4 =>
          Wp G (m_X12_takeOne, d + 1, 0, 0, post) (0, 0) 34 [.ref l0, .null, .null, .int r1] [] h4
        )
      ) else (
        Wp G (m_X12_takeOne, d + 1, 0, 0, post) (0, 0) 34 [.ref l0, .null, .null, .int r1] [] h2
      )
    ) else (
      if (gi h l0 8) = 0 then (
        cv G d m_X12_wrong [.ref l0, .int 1] h fun h6 =>
        Wp G (m_X12_takeOne, d + 1, 0, 0, post) (0, 0) 34 [.ref l0, .null, .null, .int (-1)] [] h6
      ) else (
        Wp G (m_X12_takeOne, d + 1, 0, 0, post) (0, 0) 34 [.ref l0, .null, .null, .int (-1)] [] h
      )
    )) :
    Wp G (m_X12_takeOne, d + 1, 0, 0, post) (0, 0) 0 [.ref l0, .int l1, .int l2, .null] [] h := by
  refine w_aload_n dX12_takeOne_0 rfl ?_
  obtain ⟨e1, w⟩ := w
  refine w_geti dX12_takeOne_1 lk_RX12_146 e1 rfl ?_
  refine w_if_le (tgt := 11) dX12_takeOne_4 rfl (fun c => ?_) (fun c => ?_)
  · rw [if_pos c] at w
    refine w_aload_n dX12_takeOne_11 rfl ?_
    refine w_iload_n dX12_takeOne_12 rfl ?_
    refine w_iload_n dX12_takeOne_13 rfl ?_
    refine w_callV (As := [.int l1, .int l2]) (st := []) dX12_takeOne_14 mt_X12_wordHere g_1603 g_1605 g_80 rfl e1 rfl rfl (Nat.le_of_ble_eq_true rfl) (Nat.le_refl _) ⟨Nat.le_refl _, Nat.le_refl _⟩ w ?_
    rintro v h2 ⟨r1, rfl, w⟩
    refine v_istore_n (l' := [.ref l0, .int l1, .int l2, .int r1]) dX12_takeOne_17 (Nat.le_of_ble_eq_true rfl) rfl ?_
    refine w_aload_n dX12_takeOne_18 rfl ?_
    obtain ⟨e1, w⟩ := w
    refine w_geti dX12_takeOne_19 lk_RX12_146 e1 rfl ?_
    refine w_if_ne (tgt := 34) dX12_takeOne_22 rfl (fun c => ?_) (fun c => ?_)
    · rw [if_neg c] at w
      exact w_drop (l' := [.ref l0, .null, .null, .int r1]) ⟨Or.inr rfl, Or.inl rfl, Or.inl rfl, Or.inr rfl, trivial⟩ w
    · rw [if_pos c] at w
      refine w_iload_n dX12_takeOne_25 rfl ?_
      refine w_if_ge (tgt := 34) dX12_takeOne_26 rfl (fun c => ?_) (fun c => ?_)
      · rw [if_pos c] at w
        exact w_drop (l' := [.ref l0, .null, .null, .int r1]) ⟨Or.inr rfl, Or.inl rfl, Or.inl rfl, Or.inr rfl, trivial⟩ w
      · rw [if_neg c] at w
        refine w_aload_n dX12_takeOne_29 rfl ?_
        refine w_iconst (v := 1) dX12_takeOne_30 rfl ?_
        refine w_callV (As := [.int 1]) (st := []) dX12_takeOne_31 mt_X12_wrong g_1595 g_1597 g_78 rfl e1 rfl rfl (Nat.le_of_ble_eq_true rfl) (Nat.le_refl _) ⟨Nat.le_refl _, Nat.le_refl _⟩ w ?_
        rintro v h4 ⟨rfl, w⟩
        exact w_drop (l' := [.ref l0, .null, .null, .int r1]) ⟨Or.inr rfl, Or.inl rfl, Or.inl rfl, Or.inr rfl, trivial⟩ w
  · rw [if_neg c] at w
    refine w_iconst (v := (-1)) dX12_takeOne_7 rfl ?_
    refine w_goto (tgt := 17) dX12_takeOne_8 rfl ?_
    refine v_istore_n (l' := [.ref l0, .int l1, .int l2, .int (-1)]) dX12_takeOne_17 (Nat.le_of_ble_eq_true rfl) rfl ?_
    refine w_aload_n dX12_takeOne_18 rfl ?_
    refine w_geti dX12_takeOne_19 lk_RX12_146 e1 rfl ?_
    refine w_if_ne (tgt := 34) dX12_takeOne_22 rfl (fun c => ?_) (fun c => ?_)
    · rw [if_neg c] at w
      exact w_drop (l' := [.ref l0, .null, .null, .int (-1)]) ⟨Or.inr rfl, Or.inl rfl, Or.inl rfl, Or.inr rfl, trivial⟩ w
    · rw [if_pos c] at w
      refine w_iload_n dX12_takeOne_25 rfl ?_
      refine w_if_ge (tgt := 34) dX12_takeOne_26 rfl (fun c => ?_) (fun c => ?_)
      · exact absurd c (by decide)
      · refine w_aload_n dX12_takeOne_29 rfl ?_
        refine w_iconst (v := 1) dX12_takeOne_30 rfl ?_
        refine w_callV (As := [.int 1]) (st := []) dX12_takeOne_31 mt_X12_wrong g_1595 g_1597 g_78 rfl e1 rfl rfl (Nat.le_of_ble_eq_true rfl) (Nat.le_refl _) ⟨Nat.le_refl _, Nat.le_refl _⟩ w ?_
        rintro v h6 ⟨rfl, w⟩
        exact w_drop (l' := [.ref l0, .null, .null, .int (-1)]) ⟨Or.inr rfl, Or.inl rfl, Or.inl rfl, Or.inr rfl, trivial⟩ w
set_option maxRecDepth 20000 in
set_option maxHeartbeats 4000000 in
theorem x_X12_takeOne_34 {G : pm_G} {d : Nat} {post : pm_PT} {h : pm_H} {l0 : Nat} {l3 : Int32} (w :
    (h.1[l0]? = some (0, 11)) ∧
    if (gi h l0 8) ≤ 0 then (
      ∀ h1 : pm_H, h1 = si h l0 7 ((gi h l0 7) + 1) →
      if (gi h1 l0 8) ≤ 0 then (
        post (some (.int l3)) h1
      ) else (
        post (some (.int 0)) h1
      )
    ) else (
      ∀ h2 : pm_H, h2 = si h l0 7 ((gi h l0 7) + 0) →
      if (gi h2 l0 8) ≤ 0 then (
        post (some (.int l3)) h2
      ) else (
        post (some (.int 0)) h2
      )
    )) :
    Wp G (m_X12_takeOne, d + 1, 0, 0, post) (0, 0) 34 [.ref l0, .null, .null, .int l3] [] h := by
  refine w_aload_n dX12_takeOne_34 rfl ?_
  refine w_dup dX12_takeOne_35 rfl ?_
  obtain ⟨e1, w⟩ := w
  refine w_geti dX12_takeOne_36 lk_RX12_143 e1 rfl ?_
  refine w_aload_n dX12_takeOne_39 rfl ?_
  refine w_geti dX12_takeOne_40 lk_RX12_146 e1 rfl ?_
  refine w_if_le (tgt := 50) dX12_takeOne_43 rfl (fun c => ?_) (fun c => ?_)
  · rw [if_pos c] at w
    refine w_iconst (v := 1) dX12_takeOne_50 rfl ?_
    refine w_iadd dX12_takeOne_51 ?_
    refine w_puti dX12_takeOne_52 lk_RX12_143 e1 rfl (Or.inl rfl) ?_
    have w := w _ rfl
    refine w_aload_n dX12_takeOne_55 rfl ?_
    refine w_geti dX12_takeOne_56 lk_RX12_146 e1 rfl ?_
    refine w_if_le (tgt := 66) dX12_takeOne_59 rfl (fun c => ?_) (fun c => ?_)
    · rw [if_pos c] at w
      refine w_iload_n dX12_takeOne_66 rfl ?_
      exact w_ireturn dX12_takeOne_67 rfl rfl ⟨Nat.le_refl _, Nat.le_refl _⟩ w
    · rw [if_neg c] at w
      refine w_iconst (v := 0) dX12_takeOne_62 rfl ?_
      refine w_goto (tgt := 67) dX12_takeOne_63 rfl ?_
      exact w_ireturn dX12_takeOne_67 rfl rfl ⟨Nat.le_refl _, Nat.le_refl _⟩ w
  · rw [if_neg c] at w
    refine w_iconst (v := 0) dX12_takeOne_46 rfl ?_
    refine w_goto (tgt := 51) dX12_takeOne_47 rfl ?_
    refine w_iadd dX12_takeOne_51 ?_
    refine w_puti dX12_takeOne_52 lk_RX12_143 e1 rfl (Or.inl rfl) ?_
    have w := w _ rfl
    refine w_aload_n dX12_takeOne_55 rfl ?_
    refine w_geti dX12_takeOne_56 lk_RX12_146 e1 rfl ?_
    refine w_if_le (tgt := 66) dX12_takeOne_59 rfl (fun c => ?_) (fun c => ?_)
    · rw [if_pos c] at w
      refine w_iload_n dX12_takeOne_66 rfl ?_
      exact w_ireturn dX12_takeOne_67 rfl rfl ⟨Nat.le_refl _, Nat.le_refl _⟩ w
    · rw [if_neg c] at w
      refine w_iconst (v := 0) dX12_takeOne_62 rfl ?_
      refine w_goto (tgt := 67) dX12_takeOne_63 rfl ?_
      exact w_ireturn dX12_takeOne_67 rfl rfl ⟨Nat.le_refl _, Nat.le_refl _⟩ w
set_option maxRecDepth 20000 in
set_option maxHeartbeats 4000000 in
theorem x_X12_isName {G : pm_G} {d : Nat} {post : pm_PT} {h : pm_H} {l0 : Nat} (w :
    (h.1[l0]? = some (0, 11)) ∧
    if (gi h l0 8) = 0 then (
      ∃ n1 : Nat, h.1[gp h l0 4]? = some (1, n1) ∧
      (vp_in (gi h l0 7) n1) ∧
      if (gi h (gp h l0 4) (gi h l0 7 : Int32).toNatClampNeg) = 1 then (
        ci G d m_X12_wordHere [.ref l0, .int 0, .int 18] h fun r2 h3 =>
        if 0 ≤ r2 then (
          post (some (.int 0)) h3
        ) else (
          post (some (.int 1)) h3
        )
      ) else (
        post (some (.int 0)) h
      )
    ) else (
      post (some (.int 0)) h
    )) :
    Wp G (m_X12_isName, d + 1, 0, 0, post) (0, 0) 0 [.ref l0] [] h := by
  refine w_aload_n dX12_isName_0 rfl ?_
  obtain ⟨e1, w⟩ := w
  refine w_geti dX12_isName_1 lk_RX12_146 e1 rfl ?_
  refine w_if_ne (tgt := 34) dX12_isName_4 rfl (fun c => ?_) (fun c => ?_)
  · rw [if_neg c] at w
    refine w_iconst (v := 0) dX12_isName_34 rfl ?_
    exact w_ireturn dX12_isName_35 rfl rfl ⟨Nat.le_refl _, Nat.le_refl _⟩ w
  · rw [if_pos c] at w
    refine w_aload_n dX12_isName_7 rfl ?_
    refine w_getp dX12_isName_8 lk_RX12_24 e1 rfl ?_
    refine w_aload_n dX12_isName_11 rfl ?_
    refine w_geti dX12_isName_12 lk_RX12_143 e1 rfl ?_
    obtain ⟨n1, ln1, w⟩ := w
    obtain ⟨e3, w⟩ := w
    refine w_iald dX12_isName_15 ln1 e3 ?_
    refine w_iconst (v := 1) dX12_isName_16 rfl ?_
    refine w_ic_ne (tgt := 34) dX12_isName_17 rfl (fun c => ?_) (fun c => ?_)
    · rw [if_neg c] at w
      refine w_iconst (v := 0) dX12_isName_34 rfl ?_
      exact w_ireturn dX12_isName_35 rfl rfl ⟨Nat.le_refl _, Nat.le_refl _⟩ w
    · rw [if_pos c] at w
      refine w_aload_n dX12_isName_20 rfl ?_
      refine w_iconst (v := 0) dX12_isName_21 rfl ?_
      refine w_bipush (v := 18) dX12_isName_22 rfl ?_
      refine w_callV (As := [.int 0, .int 18]) (st := []) dX12_isName_24 mt_X12_wordHere g_1603 g_1605 g_80 rfl e1 rfl rfl (Nat.le_of_ble_eq_true rfl) (Nat.le_refl _) ⟨Nat.le_refl _, Nat.le_refl _⟩ w ?_
      rintro v h3 ⟨r2, rfl, w⟩
      refine w_if_ge (tgt := 34) dX12_isName_27 rfl (fun c => ?_) (fun c => ?_)
      · rw [if_pos c] at w
        refine w_iconst (v := 0) dX12_isName_34 rfl ?_
        exact w_ireturn dX12_isName_35 rfl rfl ⟨Nat.le_refl _, Nat.le_refl _⟩ w
      · rw [if_neg c] at w
        refine w_iconst (v := 1) dX12_isName_30 rfl ?_
        refine w_goto (tgt := 35) dX12_isName_31 rfl ?_
        exact w_ireturn dX12_isName_35 rfl rfl ⟨Nat.le_refl _, Nat.le_refl _⟩ w
set_option maxRecDepth 20000 in
set_option maxHeartbeats 4000000 in
theorem x_X12_nameAt {G : pm_G} {d : Nat} {post : pm_PT} {h : pm_H} {l0 : Nat} {l1 : Int32} {l2 : Int32} (w :
    Wp G (m_X12_nameAt, d + 1, 0, 0, post) (0, 0) 5 [.ref l0, .int l1, .int l2, .int (-1), .int 0] [] h) :
    Wp G (m_X12_nameAt, d + 1, 0, 0, post) (0, 0) 0 [.ref l0, .int l1, .int l2, .null, .null] [] h := by
  refine w_iconst (v := (-1)) dX12_nameAt_0 rfl ?_
  refine v_istore_n (l' := [.ref l0, .int l1, .int l2, .int (-1), .null]) dX12_nameAt_1 (Nat.le_of_ble_eq_true rfl) rfl ?_
  refine w_iconst (v := 0) dX12_nameAt_2 rfl ?_
  refine v_istore (l' := [.ref l0, .int l1, .int l2, .int (-1), .int 0]) dX12_nameAt_3 (Nat.le_of_ble_eq_true rfl) rfl ?_
  exact w
set_option maxRecDepth 20000 in
set_option maxHeartbeats 4000000 in
theorem x_X12_nameAt_5 {G : pm_G} {d : Nat} {post : pm_PT} {h : pm_H} {l0 : Nat} {l1 : Int32} {l2 : Int32} {l3 : Int32} {l4 : Int32} (w :
    if l2 ≤ l4 then (
      post (some (.int l3)) h
    ) else (
      (h.1[l0]? = some (0, 11)) ∧
      ∃ n1 : Nat, h.1[gp h l0 13]? = some (2, n1) ∧
      (vp_in (l1 + l4) n1) ∧
      ∃ n2 : Nat, h.1[gp h l0 6]? = some (2, n2) ∧
      (vp_in (gi h l0 7) n2) ∧
      if (lg_cmp (gj h (gp h l0 13) (l1 + l4 : Int32).toNatClampNeg) (gj h (gp h l0 6) (gi h l0 7 : Int32).toNatClampNeg)) = 0 then (
        Wp G (m_X12_nameAt, d + 1, 0, 0, post) (0, 0) 5 [.ref l0, .int l1, .int l2, .int l4, .int (l4 + 1)] [] h
      ) else (
        Wp G (m_X12_nameAt, d + 1, 0, 0, post) (0, 0) 5 [.ref l0, .int l1, .int l2, .int l3, .int (l4 + 1)] [] h
      )
    )) :
    Wp G (m_X12_nameAt, d + 1, 0, 0, post) (0, 0) 5 [.ref l0, .int l1, .int l2, .int l3, .int l4] [] h := by
  refine w_iload dX12_nameAt_5 rfl ?_
  refine w_iload_n dX12_nameAt_7 rfl ?_
  refine w_ic_ge (tgt := 46) dX12_nameAt_8 rfl (fun c => ?_) (fun c => ?_)
  · rw [if_pos c] at w
    refine w_iload_n dX12_nameAt_46 rfl ?_
    exact w_ireturn dX12_nameAt_47 rfl rfl ⟨Nat.le_refl _, Nat.le_refl _⟩ w
  · rw [if_neg c] at w
    refine w_aload_n dX12_nameAt_11 rfl ?_
    obtain ⟨e1, w⟩ := w
    refine w_getp dX12_nameAt_12 lk_RX12_85 e1 rfl ?_
    refine w_iload_n dX12_nameAt_15 rfl ?_
    refine w_iload dX12_nameAt_16 rfl ?_
    refine w_iadd dX12_nameAt_18 ?_
    obtain ⟨n1, ln1, w⟩ := w
    obtain ⟨e3, w⟩ := w
    refine w_lald dX12_nameAt_19 ln1 e3 ?_
    refine w_aload_n dX12_nameAt_20 rfl ?_
    refine w_getp dX12_nameAt_21 lk_RX12_30 e1 rfl ?_
    refine w_aload_n dX12_nameAt_24 rfl ?_
    refine w_geti dX12_nameAt_25 lk_RX12_143 e1 rfl ?_
    obtain ⟨n2, ln2, w⟩ := w
    obtain ⟨e5, w⟩ := w
    refine w_lald dX12_nameAt_28 ln2 e5 ?_
    refine w_lcmp dX12_nameAt_29 ?_
    refine w_if_ne (tgt := 38) dX12_nameAt_30 rfl (fun c => ?_) (fun c => ?_)
    · rw [if_neg c] at w
      refine w_iload_n dX12_nameAt_38 rfl ?_
      refine v_istore_n (l' := [.ref l0, .int l1, .int l2, .int l3, .int l4]) dX12_nameAt_39 (Nat.le_of_ble_eq_true rfl) rfl ?_
      refine v_iinc (l' := [.ref l0, .int l1, .int l2, .int l3, .int (l4 + 1)]) (v := l4 + 1) dX12_nameAt_40 rfl rfl (Nat.le_of_ble_eq_true rfl) rfl ?_
      refine w_goto (tgt := 5) dX12_nameAt_43 rfl ?_
      exact w
    · rw [if_pos c] at w
      refine w_iload dX12_nameAt_33 rfl ?_
      refine w_goto (tgt := 39) dX12_nameAt_35 rfl ?_
      refine v_istore_n (l' := [.ref l0, .int l1, .int l2, .int l4, .int l4]) dX12_nameAt_39 (Nat.le_of_ble_eq_true rfl) rfl ?_
      refine v_iinc (l' := [.ref l0, .int l1, .int l2, .int l4, .int (l4 + 1)]) (v := l4 + 1) dX12_nameAt_40 rfl rfl (Nat.le_of_ble_eq_true rfl) rfl ?_
      refine w_goto (tgt := 5) dX12_nameAt_43 rfl ?_
      exact w
set_option maxRecDepth 20000 in
set_option maxHeartbeats 4000000 in
theorem x_X12_takeTold {G : pm_G} {d : Nat} {post : pm_PT} {h : pm_H} {l0 : Nat} {l1 : Int32} {l2 : Int32} {l3 : Int32} (w :
    (h.1[l0]? = some (0, 11)) ∧
    if (gi h l0 8) = 0 then (
      ci G d m_X12_isName [.ref l0] h fun r1 h2 =>
      if r1 = 0 then (
        (h2.1[l0]? = some (0, 11)) ∧
        cv G d m_X12_wrong [.ref l0, .int 1] h2 fun h4 =>
        Wp G (m_X12_takeTold, d + 1, 0, 0, post) (0, 0) 19 [.ref l0, .int l1, .int l2, .int l3, .null] [] h4
      ) else (
        Wp G (m_X12_takeTold, d + 1, 0, 0, post) (0, 0) 19 [.ref l0, .int l1, .int l2, .int l3, .null] [] h2
      )
    ) else (
      Wp G (m_X12_takeTold, d + 1, 0, 0, post) (0, 0) 19 [.ref l0, .int l1, .int l2, .int l3, .null] [] h
    )) :
    Wp G (m_X12_takeTold, d + 1, 0, 0, post) (0, 0) 0 [.ref l0, .int l1, .int l2, .int l3, .null] [] h := by
  refine w_aload_n dX12_takeTold_0 rfl ?_
  obtain ⟨e1, w⟩ := w
  refine w_geti dX12_takeTold_1 lk_RX12_146 e1 rfl ?_
  refine w_if_ne (tgt := 19) dX12_takeTold_4 rfl (fun c => ?_) (fun c => ?_)
  · rw [if_neg c] at w
    exact w
  · rw [if_pos c] at w
    refine w_aload_n dX12_takeTold_7 rfl ?_
    refine w_callV (As := []) (st := []) dX12_takeTold_8 mt_X12_isName g_1599 g_1601 g_79 rfl e1 rfl rfl (Nat.le_of_ble_eq_true rfl) (Nat.le_refl _) ⟨Nat.le_refl _, Nat.le_refl _⟩ w ?_
    rintro v h2 ⟨r1, rfl, w⟩
    refine w_if_ne (tgt := 19) dX12_takeTold_11 rfl (fun c => ?_) (fun c => ?_)
    · rw [if_neg c] at w
      exact w
    · rw [if_pos c] at w
      refine w_aload_n dX12_takeTold_14 rfl ?_
      refine w_iconst (v := 1) dX12_takeTold_15 rfl ?_
      obtain ⟨e1, w⟩ := w
      refine w_callV (As := [.int 1]) (st := []) dX12_takeTold_16 mt_X12_wrong g_1595 g_1597 g_78 rfl e1 rfl rfl (Nat.le_of_ble_eq_true rfl) (Nat.le_refl _) ⟨Nat.le_refl _, Nat.le_refl _⟩ w ?_
      rintro v h4 ⟨rfl, w⟩
      exact w
set_option maxRecDepth 20000 in
set_option maxHeartbeats 4000000 in
theorem x_X12_takeTold_19 {G : pm_G} {d : Nat} {post : pm_PT} {h : pm_H} {l0 : Nat} {l1 : Int32} {l2 : Int32} {l3 : Int32} (w :
    (h.1[l0]? = some (0, 11)) ∧
    if (gi h l0 8) ≤ 0 then (
      ci G d m_X12_nameAt [.ref l0, .int l1, .int l2] h fun r1 h2 =>
      (h2.1[l0]? = some (0, 11)) ∧
      if (gi h2 l0 8) = 0 then (
        if 0 ≤ r1 then (
          if (gi h2 l0 8) = 0 then (
            if r1 = l3 then (
              cv G d m_X12_wrong [.ref l0, .int 3] h2 fun h4 =>
              Wp G (m_X12_takeTold, d + 1, 0, 0, post) (0, 0) 76 [.ref l0, .null, .null, .null, .int r1] [] h4
            ) else (
              Wp G (m_X12_takeTold, d + 1, 0, 0, post) (0, 0) 76 [.ref l0, .null, .null, .null, .int r1] [] h2
            )
          ) else (
            Wp G (m_X12_takeTold, d + 1, 0, 0, post) (0, 0) 76 [.ref l0, .null, .null, .null, .int r1] [] h2
          )
        ) else (
          cv G d m_X12_wrong [.ref l0, .int 2] h2 fun h6 =>
          Wp G (m_X12_takeTold, d + 1, 0, 0, post) (0, 0) 76 [.ref l0, .null, .null, .null, .int r1] [] h6
        )
      ) else (
        if (gi h2 l0 8) = 0 then (
          if r1 = l3 then (
            cv G d m_X12_wrong [.ref l0, .int 3] h2 fun h8 =>
            Wp G (m_X12_takeTold, d + 1, 0, 0, post) (0, 0) 76 [.ref l0, .null, .null, .null, .int r1] [] h8
          ) else (
            Wp G (m_X12_takeTold, d + 1, 0, 0, post) (0, 0) 76 [.ref l0, .null, .null, .null, .int r1] [] h2
          )
        ) else (
          Wp G (m_X12_takeTold, d + 1, 0, 0, post) (0, 0) 76 [.ref l0, .null, .null, .null, .int r1] [] h2
        )
      )
    ) else (
      if (gi h l0 8) = 0 then (
        cv G d m_X12_wrong [.ref l0, .int 2] h fun h10 =>
        Wp G (m_X12_takeTold, d + 1, 0, 0, post) (0, 0) 76 [.ref l0, .null, .null, .null, .int (-1)] [] h10
      ) else (
        if (gi h l0 8) = 0 then (
          if (-1) = l3 then (
            cv G d m_X12_wrong [.ref l0, .int 3] h fun h12 =>
            Wp G (m_X12_takeTold, d + 1, 0, 0, post) (0, 0) 76 [.ref l0, .null, .null, .null, .int (-1)] [] h12
          ) else (
            Wp G (m_X12_takeTold, d + 1, 0, 0, post) (0, 0) 76 [.ref l0, .null, .null, .null, .int (-1)] [] h
          )
        ) else (
          Wp G (m_X12_takeTold, d + 1, 0, 0, post) (0, 0) 76 [.ref l0, .null, .null, .null, .int (-1)] [] h
        )
      )
    )) :
    Wp G (m_X12_takeTold, d + 1, 0, 0, post) (0, 0) 19 [.ref l0, .int l1, .int l2, .int l3, .null] [] h := by
  refine w_aload_n dX12_takeTold_19 rfl ?_
  obtain ⟨e1, w⟩ := w
  refine w_geti dX12_takeTold_20 lk_RX12_146 e1 rfl ?_
  refine w_if_le (tgt := 30) dX12_takeTold_23 rfl (fun c => ?_) (fun c => ?_)
  · rw [if_pos c] at w
    refine w_aload_n dX12_takeTold_30 rfl ?_
    refine w_iload_n dX12_takeTold_31 rfl ?_
    refine w_iload_n dX12_takeTold_32 rfl ?_
    refine w_callV (As := [.int l1, .int l2]) (st := []) dX12_takeTold_33 mt_X12_nameAt g_1607 g_1609 g_81 rfl e1 rfl rfl (Nat.le_of_ble_eq_true rfl) (Nat.le_refl _) ⟨Nat.le_refl _, Nat.le_refl _⟩ w ?_
    rintro v h2 ⟨r1, rfl, w⟩
    refine v_istore (l' := [.ref l0, .int l1, .int l2, .int l3, .int r1]) dX12_takeTold_36 (Nat.le_of_ble_eq_true rfl) rfl ?_
    refine w_aload_n dX12_takeTold_38 rfl ?_
    obtain ⟨e1, w⟩ := w
    refine w_geti dX12_takeTold_39 lk_RX12_146 e1 rfl ?_
    refine w_if_ne (tgt := 58) dX12_takeTold_42 rfl (fun c => ?_) (fun c => ?_)
    · rw [if_neg c] at w
      refine w_aload_n dX12_takeTold_58 rfl ?_
      refine w_geti dX12_takeTold_59 lk_RX12_146 e1 rfl ?_
      refine w_if_ne (tgt := 76) dX12_takeTold_62 rfl (fun c => ?_) (fun c => ?_)
      · rw [if_neg c] at w
        exact w_drop (l' := [.ref l0, .null, .null, .null, .int r1]) ⟨Or.inr rfl, Or.inl rfl, Or.inl rfl, Or.inl rfl, Or.inr rfl, trivial⟩ w
      · rw [if_pos c] at w
        refine w_iload dX12_takeTold_65 rfl ?_
        refine w_iload_n dX12_takeTold_67 rfl ?_
        refine w_ic_ne (tgt := 76) dX12_takeTold_68 rfl (fun c => ?_) (fun c => ?_)
        · rw [if_neg c] at w
          exact w_drop (l' := [.ref l0, .null, .null, .null, .int r1]) ⟨Or.inr rfl, Or.inl rfl, Or.inl rfl, Or.inl rfl, Or.inr rfl, trivial⟩ w
        · rw [if_pos c] at w
          refine w_aload_n dX12_takeTold_71 rfl ?_
          refine w_iconst (v := 3) dX12_takeTold_72 rfl ?_
          refine w_callV (As := [.int 3]) (st := []) dX12_takeTold_73 mt_X12_wrong g_1595 g_1597 g_78 rfl e1 rfl rfl (Nat.le_of_ble_eq_true rfl) (Nat.le_refl _) ⟨Nat.le_refl _, Nat.le_refl _⟩ w ?_
          rintro v h8 ⟨rfl, w⟩
          exact w_drop (l' := [.ref l0, .null, .null, .null, .int r1]) ⟨Or.inr rfl, Or.inl rfl, Or.inl rfl, Or.inl rfl, Or.inr rfl, trivial⟩ w
    · rw [if_pos c] at w
      refine w_iload dX12_takeTold_45 rfl ?_
      refine w_if_ge (tgt := 58) dX12_takeTold_47 rfl (fun c => ?_) (fun c => ?_)
      · rw [if_pos c] at w
        refine w_aload_n dX12_takeTold_58 rfl ?_
        refine w_geti dX12_takeTold_59 lk_RX12_146 e1 rfl ?_
        refine w_if_ne (tgt := 76) dX12_takeTold_62 rfl (fun c => ?_) (fun c => ?_)
        · rw [if_neg c] at w
          exact w_drop (l' := [.ref l0, .null, .null, .null, .int r1]) ⟨Or.inr rfl, Or.inl rfl, Or.inl rfl, Or.inl rfl, Or.inr rfl, trivial⟩ w
        · rw [if_pos c] at w
          refine w_iload dX12_takeTold_65 rfl ?_
          refine w_iload_n dX12_takeTold_67 rfl ?_
          refine w_ic_ne (tgt := 76) dX12_takeTold_68 rfl (fun c => ?_) (fun c => ?_)
          · rw [if_neg c] at w
            exact w_drop (l' := [.ref l0, .null, .null, .null, .int r1]) ⟨Or.inr rfl, Or.inl rfl, Or.inl rfl, Or.inl rfl, Or.inr rfl, trivial⟩ w
          · rw [if_pos c] at w
            refine w_aload_n dX12_takeTold_71 rfl ?_
            refine w_iconst (v := 3) dX12_takeTold_72 rfl ?_
            refine w_callV (As := [.int 3]) (st := []) dX12_takeTold_73 mt_X12_wrong g_1595 g_1597 g_78 rfl e1 rfl rfl (Nat.le_of_ble_eq_true rfl) (Nat.le_refl _) ⟨Nat.le_refl _, Nat.le_refl _⟩ w ?_
            rintro v h4 ⟨rfl, w⟩
            exact w_drop (l' := [.ref l0, .null, .null, .null, .int r1]) ⟨Or.inr rfl, Or.inl rfl, Or.inl rfl, Or.inl rfl, Or.inr rfl, trivial⟩ w
      · rw [if_neg c] at w
        refine w_aload_n dX12_takeTold_50 rfl ?_
        refine w_iconst (v := 2) dX12_takeTold_51 rfl ?_
        refine w_callV (As := [.int 2]) (st := []) dX12_takeTold_52 mt_X12_wrong g_1595 g_1597 g_78 rfl e1 rfl rfl (Nat.le_of_ble_eq_true rfl) (Nat.le_refl _) ⟨Nat.le_refl _, Nat.le_refl _⟩ w ?_
        rintro v h6 ⟨rfl, w⟩
        refine w_goto (tgt := 76) dX12_takeTold_55 rfl ?_
        exact w_drop (l' := [.ref l0, .null, .null, .null, .int r1]) ⟨Or.inr rfl, Or.inl rfl, Or.inl rfl, Or.inl rfl, Or.inr rfl, trivial⟩ w
  · rw [if_neg c] at w
    refine w_iconst (v := (-1)) dX12_takeTold_26 rfl ?_
    refine w_goto (tgt := 36) dX12_takeTold_27 rfl ?_
    refine v_istore (l' := [.ref l0, .int l1, .int l2, .int l3, .int (-1)]) dX12_takeTold_36 (Nat.le_of_ble_eq_true rfl) rfl ?_
    refine w_aload_n dX12_takeTold_38 rfl ?_
    refine w_geti dX12_takeTold_39 lk_RX12_146 e1 rfl ?_
    refine w_if_ne (tgt := 58) dX12_takeTold_42 rfl (fun c => ?_) (fun c => ?_)
    · rw [if_neg c] at w
      refine w_aload_n dX12_takeTold_58 rfl ?_
      refine w_geti dX12_takeTold_59 lk_RX12_146 e1 rfl ?_
      refine w_if_ne (tgt := 76) dX12_takeTold_62 rfl (fun c => ?_) (fun c => ?_)
      · rw [if_neg c] at w
        exact w_drop (l' := [.ref l0, .null, .null, .null, .int (-1)]) ⟨Or.inr rfl, Or.inl rfl, Or.inl rfl, Or.inl rfl, Or.inr rfl, trivial⟩ w
      · rw [if_pos c] at w
        refine w_iload dX12_takeTold_65 rfl ?_
        refine w_iload_n dX12_takeTold_67 rfl ?_
        refine w_ic_ne (tgt := 76) dX12_takeTold_68 rfl (fun c => ?_) (fun c => ?_)
        · rw [if_neg c] at w
          exact w_drop (l' := [.ref l0, .null, .null, .null, .int (-1)]) ⟨Or.inr rfl, Or.inl rfl, Or.inl rfl, Or.inl rfl, Or.inr rfl, trivial⟩ w
        · rw [if_pos c] at w
          refine w_aload_n dX12_takeTold_71 rfl ?_
          refine w_iconst (v := 3) dX12_takeTold_72 rfl ?_
          refine w_callV (As := [.int 3]) (st := []) dX12_takeTold_73 mt_X12_wrong g_1595 g_1597 g_78 rfl e1 rfl rfl (Nat.le_of_ble_eq_true rfl) (Nat.le_refl _) ⟨Nat.le_refl _, Nat.le_refl _⟩ w ?_
          rintro v h12 ⟨rfl, w⟩
          exact w_drop (l' := [.ref l0, .null, .null, .null, .int (-1)]) ⟨Or.inr rfl, Or.inl rfl, Or.inl rfl, Or.inl rfl, Or.inr rfl, trivial⟩ w
    · rw [if_pos c] at w
      refine w_iload dX12_takeTold_45 rfl ?_
      refine w_if_ge (tgt := 58) dX12_takeTold_47 rfl (fun c => ?_) (fun c => ?_)
      · exact absurd c (by decide)
      · refine w_aload_n dX12_takeTold_50 rfl ?_
        refine w_iconst (v := 2) dX12_takeTold_51 rfl ?_
        refine w_callV (As := [.int 2]) (st := []) dX12_takeTold_52 mt_X12_wrong g_1595 g_1597 g_78 rfl e1 rfl rfl (Nat.le_of_ble_eq_true rfl) (Nat.le_refl _) ⟨Nat.le_refl _, Nat.le_refl _⟩ w ?_
        rintro v h10 ⟨rfl, w⟩
        refine w_goto (tgt := 76) dX12_takeTold_55 rfl ?_
        exact w_drop (l' := [.ref l0, .null, .null, .null, .int (-1)]) ⟨Or.inr rfl, Or.inl rfl, Or.inl rfl, Or.inl rfl, Or.inr rfl, trivial⟩ w
set_option maxRecDepth 20000 in
set_option maxHeartbeats 4000000 in
theorem x_X12_takeTold_76 {G : pm_G} {d : Nat} {post : pm_PT} {h : pm_H} {l0 : Nat} {l4 : Int32} (w :
    (h.1[l0]? = some (0, 11)) ∧
    if (gi h l0 8) ≤ 0 then (
      ∀ h1 : pm_H, h1 = si h l0 7 ((gi h l0 7) + 1) →
      if (gi h1 l0 8) ≤ 0 then (
        post (some (.int l4)) h1
      ) else (
        post (some (.int 0)) h1
      )
    ) else (
      ∀ h2 : pm_H, h2 = si h l0 7 ((gi h l0 7) + 0) →
      if (gi h2 l0 8) ≤ 0 then (
        post (some (.int l4)) h2
      ) else (
        post (some (.int 0)) h2
      )
    )) :
    Wp G (m_X12_takeTold, d + 1, 0, 0, post) (0, 0) 76 [.ref l0, .null, .null, .null, .int l4] [] h := by
  refine w_aload_n dX12_takeTold_76 rfl ?_
  refine w_dup dX12_takeTold_77 rfl ?_
  obtain ⟨e1, w⟩ := w
  refine w_geti dX12_takeTold_78 lk_RX12_143 e1 rfl ?_
  refine w_aload_n dX12_takeTold_81 rfl ?_
  refine w_geti dX12_takeTold_82 lk_RX12_146 e1 rfl ?_
  refine w_if_le (tgt := 92) dX12_takeTold_85 rfl (fun c => ?_) (fun c => ?_)
  · rw [if_pos c] at w
    refine w_iconst (v := 1) dX12_takeTold_92 rfl ?_
    refine w_iadd dX12_takeTold_93 ?_
    refine w_puti dX12_takeTold_94 lk_RX12_143 e1 rfl (Or.inl rfl) ?_
    have w := w _ rfl
    refine w_aload_n dX12_takeTold_97 rfl ?_
    refine w_geti dX12_takeTold_98 lk_RX12_146 e1 rfl ?_
    refine w_if_le (tgt := 108) dX12_takeTold_101 rfl (fun c => ?_) (fun c => ?_)
    · rw [if_pos c] at w
      refine w_iload dX12_takeTold_108 rfl ?_
      exact w_ireturn dX12_takeTold_110 rfl rfl ⟨Nat.le_refl _, Nat.le_refl _⟩ w
    · rw [if_neg c] at w
      refine w_iconst (v := 0) dX12_takeTold_104 rfl ?_
      refine w_goto (tgt := 110) dX12_takeTold_105 rfl ?_
      exact w_ireturn dX12_takeTold_110 rfl rfl ⟨Nat.le_refl _, Nat.le_refl _⟩ w
  · rw [if_neg c] at w
    refine w_iconst (v := 0) dX12_takeTold_88 rfl ?_
    refine w_goto (tgt := 93) dX12_takeTold_89 rfl ?_
    refine w_iadd dX12_takeTold_93 ?_
    refine w_puti dX12_takeTold_94 lk_RX12_143 e1 rfl (Or.inl rfl) ?_
    have w := w _ rfl
    refine w_aload_n dX12_takeTold_97 rfl ?_
    refine w_geti dX12_takeTold_98 lk_RX12_146 e1 rfl ?_
    refine w_if_le (tgt := 108) dX12_takeTold_101 rfl (fun c => ?_) (fun c => ?_)
    · rw [if_pos c] at w
      refine w_iload dX12_takeTold_108 rfl ?_
      exact w_ireturn dX12_takeTold_110 rfl rfl ⟨Nat.le_refl _, Nat.le_refl _⟩ w
    · rw [if_neg c] at w
      refine w_iconst (v := 0) dX12_takeTold_104 rfl ?_
      refine w_goto (tgt := 110) dX12_takeTold_105 rfl ?_
      exact w_ireturn dX12_takeTold_110 rfl rfl ⟨Nat.le_refl _, Nat.le_refl _⟩ w
set_option maxRecDepth 20000 in
set_option maxHeartbeats 4000000 in
theorem x_X12_queue {G : pm_G} {d : Nat} {post : pm_PT} {h : pm_H} {l0 : Nat} (w :
    (h.1[l0]? = some (0, 11)) ∧
    ∀ h1 : pm_H, h1 = si h l0 0 0 →
    cv G d m_X12_cutAll [.ref l0] h1 fun h3 =>
    (h3.1[l0]? = some (0, 11)) ∧
    ∀ h4 : pm_H, h4 = si h3 l0 12 0 →
    cv G d m_X12_standsAsAlways [.ref l0, .int 90] h4 fun h6 =>
    Wp G (m_X12_queue, d + 1, 0, 0, post) (0, 0) 20 [.ref l0, .null] [] h6) :
    Wp G (m_X12_queue, d + 1, 0, 0, post) (0, 0) 0 [.ref l0, .null] [] h := by
  refine w_aload_n dX12_queue_0 rfl ?_
  refine w_iconst (v := 0) dX12_queue_1 rfl ?_
  obtain ⟨e1, w⟩ := w
  refine w_puti dX12_queue_2 lk_RX12_1 e1 rfl (Or.inl rfl) ?_
  have w := w _ rfl
  refine w_aload_n dX12_queue_5 rfl ?_
  refine w_callV (As := []) (st := []) dX12_queue_6 mt_X12_cutAll g_1560 g_1562 g_73 rfl e1 rfl rfl (Nat.le_of_ble_eq_true rfl) (Nat.le_refl _) ⟨Nat.le_refl _, Nat.le_refl _⟩ w ?_
  rintro v h3 ⟨rfl, w⟩
  refine w_aload_n dX12_queue_9 rfl ?_
  refine w_iconst (v := 0) dX12_queue_10 rfl ?_
  obtain ⟨e1, w⟩ := w
  refine w_puti dX12_queue_11 lk_RX12_175 e1 rfl (Or.inl rfl) ?_
  have w := w _ rfl
  refine w_aload_n dX12_queue_14 rfl ?_
  refine w_bipush (v := 90) dX12_queue_15 rfl ?_
  refine w_callV (As := [.int 90]) (st := []) dX12_queue_17 mt_X12_standsAsAlways g_1355 g_1357 g_50 rfl e1 rfl rfl (Nat.le_of_ble_eq_true rfl) (Nat.le_refl _) ⟨Nat.le_refl _, Nat.le_refl _⟩ w ?_
  rintro v h6 ⟨rfl, w⟩
  exact w
set_option maxRecDepth 20000 in
set_option maxHeartbeats 4000000 in
theorem x_X12_queue_20 {G : pm_G} {d : Nat} {post : pm_PT} {h : pm_H} {l0 : Nat} (w :
    (h.1[l0]? = some (0, 11)) ∧
    if (gi h l0 8) = 0 then (
      ∃ n1 : Nat, h.1[gp h l0 4]? = some (1, n1) ∧
      (vp_in (gi h l0 7) n1) ∧
      if (gi h (gp h l0 4) (gi h l0 7 : Int32).toNatClampNeg) = 0 then (
        if (gi h l0 8) ≤ 0 then (
          Wp G (m_X12_queue, d + 1, 0, 0, post) (0, 0) 66 [.ref l0, .int 0] [] h
        ) else (
          post (some (.int (gi h l0 8))) h
        )
      ) else (
        cv G d m_X12_readLine [.ref l0] h fun h3 =>
        (h3.1[l0]? = some (0, 11)) ∧
        cv G d m_X12_takeSign [.ref l0, .int 59] h3 fun h5 =>
        Wp G (m_X12_queue, d + 1, 0, 0, post) (0, 0) 20 [.ref l0, .null] [] h5
      )
    ) else (
      if (gi h l0 8) ≤ 0 then (
        Wp G (m_X12_queue, d + 1, 0, 0, post) (0, 0) 66 [.ref l0, .int 0] [] h
      ) else (
        post (some (.int (gi h l0 8))) h
      )
    )) :
    Wp G (m_X12_queue, d + 1, 0, 0, post) (0, 0) 20 [.ref l0, .null] [] h := by
  refine w_aload_n dX12_queue_20 rfl ?_
  obtain ⟨e1, w⟩ := w
  refine w_geti dX12_queue_21 lk_RX12_146 e1 rfl ?_
  refine w_if_ne (tgt := 52) dX12_queue_24 rfl (fun c => ?_) (fun c => ?_)
  · rw [if_neg c] at w
    refine w_aload_n dX12_queue_52 rfl ?_
    refine w_geti dX12_queue_53 lk_RX12_146 e1 rfl ?_
    refine w_if_le (tgt := 64) dX12_queue_56 rfl (fun c => ?_) (fun c => ?_)
    · rw [if_pos c] at w
      refine w_iconst (v := 0) dX12_queue_64 rfl ?_
      refine v_istore_n (l' := [.ref l0, .int 0]) dX12_queue_65 (Nat.le_of_ble_eq_true rfl) rfl ?_
      exact w
    · rw [if_neg c] at w
      refine w_aload_n dX12_queue_59 rfl ?_
      refine w_geti dX12_queue_60 lk_RX12_146 e1 rfl ?_
      exact w_ireturn dX12_queue_63 rfl rfl ⟨Nat.le_refl _, Nat.le_refl _⟩ w
  · rw [if_pos c] at w
    refine w_aload_n dX12_queue_27 rfl ?_
    refine w_getp dX12_queue_28 lk_RX12_24 e1 rfl ?_
    refine w_aload_n dX12_queue_31 rfl ?_
    refine w_geti dX12_queue_32 lk_RX12_143 e1 rfl ?_
    obtain ⟨n1, ln1, w⟩ := w
    obtain ⟨e3, w⟩ := w
    refine w_iald dX12_queue_35 ln1 e3 ?_
    refine w_if_eq (tgt := 52) dX12_queue_36 rfl (fun c => ?_) (fun c => ?_)
    · rw [if_pos c] at w
      refine w_aload_n dX12_queue_52 rfl ?_
      refine w_geti dX12_queue_53 lk_RX12_146 e1 rfl ?_
      refine w_if_le (tgt := 64) dX12_queue_56 rfl (fun c => ?_) (fun c => ?_)
      · rw [if_pos c] at w
        refine w_iconst (v := 0) dX12_queue_64 rfl ?_
        refine v_istore_n (l' := [.ref l0, .int 0]) dX12_queue_65 (Nat.le_of_ble_eq_true rfl) rfl ?_
        exact w
      · rw [if_neg c] at w
        refine w_aload_n dX12_queue_59 rfl ?_
        refine w_geti dX12_queue_60 lk_RX12_146 e1 rfl ?_
        exact w_ireturn dX12_queue_63 rfl rfl ⟨Nat.le_refl _, Nat.le_refl _⟩ w
    · rw [if_neg c] at w
      refine w_aload_n dX12_queue_39 rfl ?_
      refine w_callV (As := []) (st := []) dX12_queue_40 mt_X12_readLine g_1579 g_1581 g_74 rfl e1 rfl rfl (Nat.le_of_ble_eq_true rfl) (Nat.le_refl _) ⟨Nat.le_refl _, Nat.le_refl _⟩ w ?_
      rintro v h3 ⟨rfl, w⟩
      refine w_aload_n dX12_queue_43 rfl ?_
      refine w_bipush (v := 59) dX12_queue_44 rfl ?_
      obtain ⟨e1, w⟩ := w
      refine w_callV (As := [.int 59]) (st := []) dX12_queue_46 mt_X12_takeSign g_1671 g_1673 g_97 rfl e1 rfl rfl (Nat.le_of_ble_eq_true rfl) (Nat.le_refl _) ⟨Nat.le_refl _, Nat.le_refl _⟩ w ?_
      rintro v h5 ⟨rfl, w⟩
      refine w_goto (tgt := 20) dX12_queue_49 rfl ?_
      exact w
set_option maxRecDepth 20000 in
set_option maxHeartbeats 4000000 in
theorem x_X12_queue_66 {G : pm_G} {d : Nat} {post : pm_PT} {h : pm_H} {l0 : Nat} {l1 : Int32} (w :
    if 90 ≤ l1 then (
      Wp G (m_X12_queue, d + 1, 0, 0, post) (0, 0) 95 [.ref l0, .int 0] [] h
    ) else (
      (h.1[l0]? = some (0, 11)) ∧
      ∃ n1 : Nat, h.1[gp h l0 10]? = some (1, n1) ∧
      (vp_in (90 + l1) n1) ∧
      (vp_in l1 n1) ∧
      ∀ h2 : pm_H, h2 = si h (gp h l0 10) (l1 : Int32).toNatClampNeg (gi h (gp h l0 10) (90 + l1 : Int32).toNatClampNeg) →
      Wp G (m_X12_queue, d + 1, 0, 0, post) (0, 0) 66 [.ref l0, .int (l1 + 1)] [] h2
    )) :
    Wp G (m_X12_queue, d + 1, 0, 0, post) (0, 0) 66 [.ref l0, .int l1] [] h := by
  refine w_iload_n dX12_queue_66 rfl ?_
  refine w_bipush (v := 90) dX12_queue_67 rfl ?_
  refine w_ic_ge (tgt := 93) dX12_queue_69 rfl (fun c => ?_) (fun c => ?_)
  · rw [if_pos c] at w
    refine w_iconst (v := 0) dX12_queue_93 rfl ?_
    refine v_istore_n (l' := [.ref l0, .int 0]) dX12_queue_94 (Nat.le_of_ble_eq_true rfl) rfl ?_
    exact w
  · rw [if_neg c] at w
    refine w_aload_n dX12_queue_72 rfl ?_
    obtain ⟨e1, w⟩ := w
    refine w_getp dX12_queue_73 lk_RX12_79 e1 rfl ?_
    refine w_iload_n dX12_queue_76 rfl ?_
    refine w_aload_n dX12_queue_77 rfl ?_
    refine w_getp dX12_queue_78 lk_RX12_79 e1 rfl ?_
    refine w_bipush (v := 90) dX12_queue_81 rfl ?_
    refine w_iload_n dX12_queue_83 rfl ?_
    refine w_iadd dX12_queue_84 ?_
    obtain ⟨n1, ln1, w⟩ := w
    obtain ⟨e3, w⟩ := w
    refine w_iald dX12_queue_85 ln1 e3 ?_
    obtain ⟨e4, w⟩ := w
    refine w_iast dX12_queue_86 ln1 e4 ?_
    have w := w _ rfl
    refine v_iinc (l' := [.ref l0, .int (l1 + 1)]) (v := l1 + 1) dX12_queue_87 rfl rfl (Nat.le_of_ble_eq_true rfl) rfl ?_
    refine w_goto (tgt := 66) dX12_queue_90 rfl ?_
    exact w
set_option maxRecDepth 20000 in
set_option maxHeartbeats 4000000 in
theorem x_X12_queue_95 {G : pm_G} {d : Nat} {post : pm_PT} {h : pm_H} {l0 : Nat} {l1 : Int32} (w :
    (h.1[l0]? = some (0, 11)) ∧
    if (gi h l0 12) ≤ l1 then (
      Wp G (m_X12_queue, d + 1, 0, 0, post) (0, 0) 127 [.ref l0, .int 0] [] h
    ) else (
      ∃ n1 : Nat, h.1[gp h l0 11]? = some (1, n1) ∧
      (vp_in (1100 + l1) n1) ∧
      (vp_in l1 n1) ∧
      ∀ h2 : pm_H, h2 = si h (gp h l0 11) (l1 : Int32).toNatClampNeg (gi h (gp h l0 11) (1100 + l1 : Int32).toNatClampNeg) →
      Wp G (m_X12_queue, d + 1, 0, 0, post) (0, 0) 95 [.ref l0, .int (l1 + 1)] [] h2
    )) :
    Wp G (m_X12_queue, d + 1, 0, 0, post) (0, 0) 95 [.ref l0, .int l1] [] h := by
  refine w_iload_n dX12_queue_95 rfl ?_
  refine w_aload_n dX12_queue_96 rfl ?_
  obtain ⟨e1, w⟩ := w
  refine w_geti dX12_queue_97 lk_RX12_175 e1 rfl ?_
  refine w_ic_ge (tgt := 125) dX12_queue_100 rfl (fun c => ?_) (fun c => ?_)
  · rw [if_pos c] at w
    refine w_iconst (v := 0) dX12_queue_125 rfl ?_
    refine v_istore_n (l' := [.ref l0, .int 0]) dX12_queue_126 (Nat.le_of_ble_eq_true rfl) rfl ?_
    exact w
  · rw [if_neg c] at w
    refine w_aload_n dX12_queue_103 rfl ?_
    refine w_getp dX12_queue_104 lk_RX12_82 e1 rfl ?_
    refine w_iload_n dX12_queue_107 rfl ?_
    refine w_aload_n dX12_queue_108 rfl ?_
    refine w_getp dX12_queue_109 lk_RX12_82 e1 rfl ?_
    refine w_sipush (v := 1100) dX12_queue_112 rfl ?_
    refine w_iload_n dX12_queue_115 rfl ?_
    refine w_iadd dX12_queue_116 ?_
    obtain ⟨n1, ln1, w⟩ := w
    obtain ⟨e3, w⟩ := w
    refine w_iald dX12_queue_117 ln1 e3 ?_
    obtain ⟨e4, w⟩ := w
    refine w_iast dX12_queue_118 ln1 e4 ?_
    have w := w _ rfl
    refine v_iinc (l' := [.ref l0, .int (l1 + 1)]) (v := l1 + 1) dX12_queue_119 rfl rfl (Nat.le_of_ble_eq_true rfl) rfl ?_
    refine w_goto (tgt := 95) dX12_queue_122 rfl ?_
    exact w
set_option maxRecDepth 20000 in
set_option maxHeartbeats 4000000 in
theorem x_X12_queue_127 {G : pm_G} {d : Nat} {post : pm_PT} {h : pm_H} {l0 : Nat} {l1 : Int32} (w :
    if 25 ≤ l1 then (
      (h.1[l0]? = some (0, 11)) ∧
      cv G d m_X12_begins [.ref l0] h fun h2 =>
      post (some (.int 0)) h2
    ) else (
      (h.1[l0]? = some (0, 11)) ∧
      ∃ n3 : Nat, h.1[gp h l0 13]? = some (2, n3) ∧
      (vp_in (25 + l1) n3) ∧
      (vp_in l1 n3) ∧
      ∀ h4 : pm_H, h4 = sl h (gp h l0 13) (l1 : Int32).toNatClampNeg (gj h (gp h l0 13) (25 + l1 : Int32).toNatClampNeg) →
      Wp G (m_X12_queue, d + 1, 0, 0, post) (0, 0) 127 [.ref l0, .int (l1 + 1)] [] h4
    )) :
    Wp G (m_X12_queue, d + 1, 0, 0, post) (0, 0) 127 [.ref l0, .int l1] [] h := by
  refine w_iload_n dX12_queue_127 rfl ?_
  refine w_bipush (v := 25) dX12_queue_128 rfl ?_
  refine w_ic_ge (tgt := 154) dX12_queue_130 rfl (fun c => ?_) (fun c => ?_)
  · rw [if_pos c] at w
    refine w_aload_n dX12_queue_154 rfl ?_
    obtain ⟨e1, w⟩ := w
    refine w_callV (As := []) (st := []) dX12_queue_155 mt_X12_begins g_1359 g_1361 g_51 rfl e1 rfl rfl (Nat.le_of_ble_eq_true rfl) (Nat.le_refl _) ⟨Nat.le_refl _, Nat.le_refl _⟩ w ?_
    rintro v h2 ⟨rfl, w⟩
    refine w_iconst (v := 0) dX12_queue_158 rfl ?_
    exact w_ireturn dX12_queue_159 rfl rfl ⟨Nat.le_refl _, Nat.le_refl _⟩ w
  · rw [if_neg c] at w
    refine w_aload_n dX12_queue_133 rfl ?_
    obtain ⟨e1, w⟩ := w
    refine w_getp dX12_queue_134 lk_RX12_85 e1 rfl ?_
    refine w_iload_n dX12_queue_137 rfl ?_
    refine w_aload_n dX12_queue_138 rfl ?_
    refine w_getp dX12_queue_139 lk_RX12_85 e1 rfl ?_
    refine w_bipush (v := 25) dX12_queue_142 rfl ?_
    refine w_iload_n dX12_queue_144 rfl ?_
    refine w_iadd dX12_queue_145 ?_
    obtain ⟨n3, ln3, w⟩ := w
    obtain ⟨e3, w⟩ := w
    refine w_lald dX12_queue_146 ln3 e3 ?_
    obtain ⟨e4, w⟩ := w
    refine w_last dX12_queue_147 ln3 e4 ?_
    have w := w _ rfl
    refine v_iinc (l' := [.ref l0, .int (l1 + 1)]) (v := l1 + 1) dX12_queue_148 rfl rfl (Nat.le_of_ble_eq_true rfl) rfl ?_
    refine w_goto (tgt := 127) dX12_queue_151 rfl ?_
    exact w
set_option maxRecDepth 20000 in
set_option maxHeartbeats 4000000 in
theorem x_X12_read {G : pm_G} {d : Nat} {post : pm_PT} {h : pm_H} {l0 : Nat} {l1 : Int32} (w :
    (h.1[l0]? = some (0, 11)) ∧
    ∃ n1 : Nat, h.1[gp h l0 10]? = some (1, n1) ∧
    (vp_in (90 + l1) n1) ∧
    post (some (.int (gi h (gp h l0 10) (90 + l1 : Int32).toNatClampNeg))) h) :
    Wp G (m_X12_read, d + 1, 0, 0, post) (0, 0) 0 [.ref l0, .int l1] [] h := by
  refine w_aload_n dX12_read_0 rfl ?_
  obtain ⟨e1, w⟩ := w
  refine w_getp dX12_read_1 lk_RX12_79 e1 rfl ?_
  refine w_bipush (v := 90) dX12_read_4 rfl ?_
  refine w_iload_n dX12_read_6 rfl ?_
  refine w_iadd dX12_read_7 ?_
  obtain ⟨n1, ln1, w⟩ := w
  obtain ⟨e3, w⟩ := w
  refine w_iald dX12_read_8 ln1 e3 ?_
  exact w_ireturn dX12_read_9 rfl rfl ⟨Nat.le_refl _, Nat.le_refl _⟩ w
set_option maxRecDepth 20000 in
set_option maxHeartbeats 4000000 in
theorem x_X12_readName {G : pm_G} {d : Nat} {post : pm_PT} {h : pm_H} {l0 : Nat} {l1 : Int32} {l2 : Int32} {l3 : Int32} (w :
    if l2 = l3 then (
      (h.1[l0]? = some (0, 11)) ∧
      cv G d m_X12_wrong [.ref l0, .int 5] h fun h2 =>
      post none h2
    ) else (
      (h.1[l0]? = some (0, 11)) ∧
      ∀ h3 : pm_H, h3 = si h l0 7 ((gi h l0 7) + 1) →
      ci G d m_X12_isName [.ref l0] h3 fun r4 h5 =>
      if r4 = 0 then (
        (h5.1[l0]? = some (0, 11)) ∧
        cv G d m_X12_wrong [.ref l0, .int 1] h5 fun h7 =>
        Wp G (m_X12_readName, d + 1, 0, 0, post) (0, 0) 83 [.ref l0, .int l1, .int l2, .null] [] h7
      ) else (
        (h5.1[l0]? = some (0, 11)) ∧
        ci G d m_X12_read [.ref l0, .int 0] h5 fun r8 h9 =>
        (h9.1[l0]? = some (0, 11)) ∧
        ci G d m_X12_nameAt [.ref l0, .int 25, .int r8] h9 fun r10 h11 =>
        if 0 ≤ r10 then (
          (h11.1[l0]? = some (0, 11)) ∧
          cv G d m_X12_wrong [.ref l0, .int 3] h11 fun h13 =>
          Wp G (m_X12_readName, d + 1, 0, 0, post) (0, 0) 83 [.ref l0, .int l1, .int l2, .null] [] h13
        ) else (
          (h11.1[l0]? = some (0, 11)) ∧
          ci G d m_X12_read [.ref l0, .int 1] h11 fun r14 h15 =>
          (h15.1[l0]? = some (0, 11)) ∧
          ci G d m_X12_nameAt [.ref l0, .int 28, .int r14] h15 fun r16 h17 =>
          if 0 ≤ r16 then (
            (h17.1[l0]? = some (0, 11)) ∧
            cv G d m_X12_wrong [.ref l0, .int 3] h17 fun h19 =>
            Wp G (m_X12_readName, d + 1, 0, 0, post) (0, 0) 83 [.ref l0, .int l1, .int l2, .null] [] h19
          ) else (
            (h17.1[l0]? = some (0, 11)) ∧
            ci G d m_X12_read [.ref l0, .int 2] h17 fun r20 h21 =>
            (h21.1[l0]? = some (0, 11)) ∧
            ci G d m_X12_nameAt [.ref l0, .int 30, .int r20] h21 fun r22 h23 =>
            if r22 < 0 then (
              Wp G (m_X12_readName, d + 1, 0, 0, post) (0, 0) 83 [.ref l0, .int l1, .int l2, .null] [] h23
            ) else (
              (h23.1[l0]? = some (0, 11)) ∧
              cv G d m_X12_wrong [.ref l0, .int 3] h23 fun h25 =>
              Wp G (m_X12_readName, d + 1, 0, 0, post) (0, 0) 83 [.ref l0, .int l1, .int l2, .null] [] h25
            )
          )
        )
      )
    )) :
    Wp G (m_X12_readName, d + 1, 0, 0, post) (0, 0) 0 [.ref l0, .int l1, .int l2, .int l3] [] h := by
  refine w_iload_n dX12_readName_0 rfl ?_
  refine w_iload_n dX12_readName_1 rfl ?_
  refine w_ic_ne (tgt := 11) dX12_readName_2 rfl (fun c => ?_) (fun c => ?_)
  · rw [if_neg c] at w
    refine w_aload_n dX12_readName_11 rfl ?_
    refine w_dup dX12_readName_12 rfl ?_
    obtain ⟨e1, w⟩ := w
    refine w_geti dX12_readName_13 lk_RX12_143 e1 rfl ?_
    refine w_iconst (v := 1) dX12_readName_16 rfl ?_
    refine w_iadd dX12_readName_17 ?_
    refine w_puti dX12_readName_18 lk_RX12_143 e1 rfl (Or.inl rfl) ?_
    have w := w _ rfl
    refine w_aload_n dX12_readName_21 rfl ?_
    refine w_callV (As := []) (st := []) dX12_readName_22 mt_X12_isName g_1599 g_1601 g_79 rfl e1 rfl rfl (Nat.le_of_ble_eq_true rfl) (Nat.le_refl _) ⟨Nat.le_refl _, Nat.le_refl _⟩ w ?_
    rintro v h5 ⟨r4, rfl, w⟩
    refine w_if_ne (tgt := 36) dX12_readName_25 rfl (fun c => ?_) (fun c => ?_)
    · rw [if_neg c] at w
      refine w_aload_n dX12_readName_36 rfl ?_
      refine w_bipush (v := 25) dX12_readName_37 rfl ?_
      refine w_aload_n dX12_readName_39 rfl ?_
      refine w_iconst (v := 0) dX12_readName_40 rfl ?_
      obtain ⟨e1, w⟩ := w
      refine w_callV (As := [.int 0]) (st := [.int 25, .ref l0]) dX12_readName_41 mt_X12_read g_1587 g_1589 g_76 rfl e1 rfl rfl (Nat.le_of_ble_eq_true rfl) (Nat.le_refl _) ⟨Nat.le_refl _, Nat.le_refl _⟩ w ?_
      rintro v h9 ⟨r8, rfl, w⟩
      obtain ⟨e1, w⟩ := w
      refine w_callV (As := [.int 25, .int r8]) (st := []) dX12_readName_44 mt_X12_nameAt g_1607 g_1609 g_81 rfl e1 rfl rfl (Nat.le_of_ble_eq_true rfl) (Nat.le_refl _) ⟨Nat.le_refl _, Nat.le_refl _⟩ w ?_
      rintro v h11 ⟨r10, rfl, w⟩
      refine w_if_ge (tgt := 78) dX12_readName_47 rfl (fun c => ?_) (fun c => ?_)
      · rw [if_pos c] at w
        refine w_aload_n dX12_readName_78 rfl ?_
        refine w_iconst (v := 3) dX12_readName_79 rfl ?_
        obtain ⟨e1, w⟩ := w
        refine w_callV (As := [.int 3]) (st := []) dX12_readName_80 mt_X12_wrong g_1595 g_1597 g_78 rfl e1 rfl rfl (Nat.le_of_ble_eq_true rfl) (Nat.le_refl _) ⟨Nat.le_refl _, Nat.le_refl _⟩ w ?_
        rintro v h13 ⟨rfl, w⟩
        exact w_drop (l' := [.ref l0, .int l1, .int l2, .null]) ⟨Or.inr rfl, Or.inr rfl, Or.inr rfl, Or.inl rfl, trivial⟩ w
      · rw [if_neg c] at w
        refine w_aload_n dX12_readName_50 rfl ?_
        refine w_bipush (v := 28) dX12_readName_51 rfl ?_
        refine w_aload_n dX12_readName_53 rfl ?_
        refine w_iconst (v := 1) dX12_readName_54 rfl ?_
        obtain ⟨e1, w⟩ := w
        refine w_callV (As := [.int 1]) (st := [.int 28, .ref l0]) dX12_readName_55 mt_X12_read g_1587 g_1589 g_76 rfl e1 rfl rfl (Nat.le_of_ble_eq_true rfl) (Nat.le_refl _) ⟨Nat.le_refl _, Nat.le_refl _⟩ w ?_
        rintro v h15 ⟨r14, rfl, w⟩
        obtain ⟨e1, w⟩ := w
        refine w_callV (As := [.int 28, .int r14]) (st := []) dX12_readName_58 mt_X12_nameAt g_1607 g_1609 g_81 rfl e1 rfl rfl (Nat.le_of_ble_eq_true rfl) (Nat.le_refl _) ⟨Nat.le_refl _, Nat.le_refl _⟩ w ?_
        rintro v h17 ⟨r16, rfl, w⟩
        refine w_if_ge (tgt := 78) dX12_readName_61 rfl (fun c => ?_) (fun c => ?_)
        · rw [if_pos c] at w
          refine w_aload_n dX12_readName_78 rfl ?_
          refine w_iconst (v := 3) dX12_readName_79 rfl ?_
          obtain ⟨e1, w⟩ := w
          refine w_callV (As := [.int 3]) (st := []) dX12_readName_80 mt_X12_wrong g_1595 g_1597 g_78 rfl e1 rfl rfl (Nat.le_of_ble_eq_true rfl) (Nat.le_refl _) ⟨Nat.le_refl _, Nat.le_refl _⟩ w ?_
          rintro v h19 ⟨rfl, w⟩
          exact w_drop (l' := [.ref l0, .int l1, .int l2, .null]) ⟨Or.inr rfl, Or.inr rfl, Or.inr rfl, Or.inl rfl, trivial⟩ w
        · rw [if_neg c] at w
          refine w_aload_n dX12_readName_64 rfl ?_
          refine w_bipush (v := 30) dX12_readName_65 rfl ?_
          refine w_aload_n dX12_readName_67 rfl ?_
          refine w_iconst (v := 2) dX12_readName_68 rfl ?_
          obtain ⟨e1, w⟩ := w
          refine w_callV (As := [.int 2]) (st := [.int 30, .ref l0]) dX12_readName_69 mt_X12_read g_1587 g_1589 g_76 rfl e1 rfl rfl (Nat.le_of_ble_eq_true rfl) (Nat.le_refl _) ⟨Nat.le_refl _, Nat.le_refl _⟩ w ?_
          rintro v h21 ⟨r20, rfl, w⟩
          obtain ⟨e1, w⟩ := w
          refine w_callV (As := [.int 30, .int r20]) (st := []) dX12_readName_72 mt_X12_nameAt g_1607 g_1609 g_81 rfl e1 rfl rfl (Nat.le_of_ble_eq_true rfl) (Nat.le_refl _) ⟨Nat.le_refl _, Nat.le_refl _⟩ w ?_
          rintro v h23 ⟨r22, rfl, w⟩
          refine w_if_lt (tgt := 83) dX12_readName_75 rfl (fun c => ?_) (fun c => ?_)
          · rw [if_pos c] at w
            exact w_drop (l' := [.ref l0, .int l1, .int l2, .null]) ⟨Or.inr rfl, Or.inr rfl, Or.inr rfl, Or.inl rfl, trivial⟩ w
          · rw [if_neg c] at w
            refine w_aload_n dX12_readName_78 rfl ?_
            refine w_iconst (v := 3) dX12_readName_79 rfl ?_
            obtain ⟨e1, w⟩ := w
            refine w_callV (As := [.int 3]) (st := []) dX12_readName_80 mt_X12_wrong g_1595 g_1597 g_78 rfl e1 rfl rfl (Nat.le_of_ble_eq_true rfl) (Nat.le_refl _) ⟨Nat.le_refl _, Nat.le_refl _⟩ w ?_
            rintro v h25 ⟨rfl, w⟩
            exact w_drop (l' := [.ref l0, .int l1, .int l2, .null]) ⟨Or.inr rfl, Or.inr rfl, Or.inr rfl, Or.inl rfl, trivial⟩ w
    · rw [if_pos c] at w
      refine w_aload_n dX12_readName_28 rfl ?_
      refine w_iconst (v := 1) dX12_readName_29 rfl ?_
      obtain ⟨e1, w⟩ := w
      refine w_callV (As := [.int 1]) (st := []) dX12_readName_30 mt_X12_wrong g_1595 g_1597 g_78 rfl e1 rfl rfl (Nat.le_of_ble_eq_true rfl) (Nat.le_refl _) ⟨Nat.le_refl _, Nat.le_refl _⟩ w ?_
      rintro v h7 ⟨rfl, w⟩
      refine w_goto (tgt := 83) dX12_readName_33 rfl ?_
      exact w_drop (l' := [.ref l0, .int l1, .int l2, .null]) ⟨Or.inr rfl, Or.inr rfl, Or.inr rfl, Or.inl rfl, trivial⟩ w
  · rw [if_pos c] at w
    refine w_aload_n dX12_readName_5 rfl ?_
    refine w_iconst (v := 5) dX12_readName_6 rfl ?_
    obtain ⟨e1, w⟩ := w
    refine w_callV (As := [.int 5]) (st := []) dX12_readName_7 mt_X12_wrong g_1595 g_1597 g_78 rfl e1 rfl rfl (Nat.le_of_ble_eq_true rfl) (Nat.le_refl _) ⟨Nat.le_refl _, Nat.le_refl _⟩ w ?_
    rintro v h2 ⟨rfl, w⟩
    exact w_return dX12_readName_10 rfl ⟨Nat.le_refl _, Nat.le_refl _⟩ w
set_option maxRecDepth 20000 in
set_option maxHeartbeats 4000000 in
theorem x_X12_readName_83 {G : pm_G} {d : Nat} {post : pm_PT} {h : pm_H} {l0 : Nat} {l1 : Int32} {l2 : Int32} (w :
    (h.1[l0]? = some (0, 11)) ∧
    if (gi h l0 8) = 0 then (
      ∃ n1 : Nat, h.1[gp h l0 6]? = some (2, n1) ∧
      (vp_in (gi h l0 7) n1) ∧
      ∃ n2 : Nat, h.1[gp h l0 13]? = some (2, n2) ∧
      (vp_in ((25 + l1) + l2) n2) ∧
      ∀ h3 : pm_H, h3 = sl h (gp h l0 13) ((25 + l1) + l2 : Int32).toNatClampNeg (gj h (gp h l0 6) (gi h l0 7 : Int32).toNatClampNeg) →
      ∀ h4 : pm_H, h4 = si h3 l0 7 ((gi h3 l0 7) + 1) →
      post none h4
    ) else (
      post none h
    )) :
    Wp G (m_X12_readName, d + 1, 0, 0, post) (0, 0) 83 [.ref l0, .int l1, .int l2, .null] [] h := by
  refine w_aload_n dX12_readName_83 rfl ?_
  obtain ⟨e1, w⟩ := w
  refine w_geti dX12_readName_84 lk_RX12_146 e1 rfl ?_
  refine w_if_ne (tgt := 120) dX12_readName_87 rfl (fun c => ?_) (fun c => ?_)
  · rw [if_neg c] at w
    exact w_return dX12_readName_120 rfl ⟨Nat.le_refl _, Nat.le_refl _⟩ w
  · rw [if_pos c] at w
    refine w_aload_n dX12_readName_90 rfl ?_
    refine w_getp dX12_readName_91 lk_RX12_85 e1 rfl ?_
    refine w_bipush (v := 25) dX12_readName_94 rfl ?_
    refine w_iload_n dX12_readName_96 rfl ?_
    refine w_iadd dX12_readName_97 ?_
    refine w_iload_n dX12_readName_98 rfl ?_
    refine w_iadd dX12_readName_99 ?_
    refine w_aload_n dX12_readName_100 rfl ?_
    refine w_getp dX12_readName_101 lk_RX12_30 e1 rfl ?_
    refine w_aload_n dX12_readName_104 rfl ?_
    refine w_geti dX12_readName_105 lk_RX12_143 e1 rfl ?_
    obtain ⟨n1, ln1, w⟩ := w
    obtain ⟨e3, w⟩ := w
    refine w_lald dX12_readName_108 ln1 e3 ?_
    obtain ⟨n2, ln2, w⟩ := w
    obtain ⟨e5, w⟩ := w
    refine w_last dX12_readName_109 ln2 e5 ?_
    have w := w _ rfl
    refine w_aload_n dX12_readName_110 rfl ?_
    refine w_dup dX12_readName_111 rfl ?_
    refine w_geti dX12_readName_112 lk_RX12_143 e1 rfl ?_
    refine w_iconst (v := 1) dX12_readName_115 rfl ?_
    refine w_iadd dX12_readName_116 ?_
    refine w_puti dX12_readName_117 lk_RX12_143 e1 rfl (Or.inl rfl) ?_
    have w := w _ rfl
    exact w_return dX12_readName_120 rfl ⟨Nat.le_refl _, Nat.le_refl _⟩ w
set_option maxRecDepth 20000 in
set_option maxHeartbeats 4000000 in
theorem x_X12_isOnce {G : pm_G} {d : Nat} {post : pm_PT} {h : pm_H} {l0 : Nat} {l1 : Int32} (w :
    (h.1[l0]? = some (0, 11)) ∧
    ci G d m_X12_read [.ref l0, .int 87] h fun r1 h2 =>
    if ((r1 >>> (l1 &&& 31)) &&& 1) = 1 then (
      (h2.1[l0]? = some (0, 11)) ∧
      cv G d m_X12_wrong [.ref l0, .int 3] h2 fun h4 =>
      post (some (.int 0)) h4
    ) else (
      (h2.1[l0]? = some (0, 11)) ∧
      ∃ n5 : Nat, h2.1[gp h2 l0 10]? = some (1, n5) ∧
      (vp_in 177 n5) ∧
      ∀ h6 : pm_H, h6 = si h2 (gp h2 l0 10) (177 : Int32).toNatClampNeg ((gi h2 (gp h2 l0 10) (177 : Int32).toNatClampNeg) ||| ((1 : Int32) <<< (l1 &&& 31))) →
      ∀ h7 : pm_H, h7 = si h6 l0 7 ((gi h6 l0 7) + 1) →
      post (some (.int 1)) h7
    )) :
    Wp G (m_X12_isOnce, d + 1, 0, 0, post) (0, 0) 0 [.ref l0, .int l1] [] h := by
  refine w_aload_n dX12_isOnce_0 rfl ?_
  refine w_bipush (v := 87) dX12_isOnce_1 rfl ?_
  obtain ⟨e1, w⟩ := w
  refine w_callV (As := [.int 87]) (st := []) dX12_isOnce_3 mt_X12_read g_1587 g_1589 g_76 rfl e1 rfl rfl (Nat.le_of_ble_eq_true rfl) (Nat.le_refl _) ⟨Nat.le_refl _, Nat.le_refl _⟩ w ?_
  rintro v h2 ⟨r1, rfl, w⟩
  refine w_iload_n dX12_isOnce_6 rfl ?_
  refine w_ishr dX12_isOnce_7 ?_
  refine w_iconst (v := 1) dX12_isOnce_8 rfl ?_
  refine w_iand dX12_isOnce_9 ?_
  refine w_iconst (v := 1) dX12_isOnce_10 rfl ?_
  refine w_ic_ne (tgt := 21) dX12_isOnce_11 rfl (fun c => ?_) (fun c => ?_)
  · rw [if_neg c] at w
    refine w_aload_n dX12_isOnce_21 rfl ?_
    obtain ⟨e1, w⟩ := w
    refine w_getp dX12_isOnce_22 lk_RX12_79 e1 rfl ?_
    refine w_sipush (v := 177) dX12_isOnce_25 rfl ?_
    refine w_dup2 dX12_isOnce_28 rfl rfl ?_
    obtain ⟨n5, ln5, w⟩ := w
    obtain ⟨e3, w⟩ := w
    refine w_iald dX12_isOnce_29 ln5 e3 ?_
    refine w_iconst (v := 1) dX12_isOnce_30 rfl ?_
    refine w_iload_n dX12_isOnce_31 rfl ?_
    refine w_ishl dX12_isOnce_32 ?_
    refine w_ior dX12_isOnce_33 ?_
    refine w_iast dX12_isOnce_34 ln5 e3 ?_
    have w := w _ rfl
    refine w_aload_n dX12_isOnce_35 rfl ?_
    refine w_dup dX12_isOnce_36 rfl ?_
    refine w_geti dX12_isOnce_37 lk_RX12_143 e1 rfl ?_
    refine w_iconst (v := 1) dX12_isOnce_40 rfl ?_
    refine w_iadd dX12_isOnce_41 ?_
    refine w_puti dX12_isOnce_42 lk_RX12_143 e1 rfl (Or.inl rfl) ?_
    have w := w _ rfl
    refine w_iconst (v := 1) dX12_isOnce_45 rfl ?_
    exact w_ireturn dX12_isOnce_46 rfl rfl ⟨Nat.le_refl _, Nat.le_refl _⟩ w
  · rw [if_pos c] at w
    refine w_aload_n dX12_isOnce_14 rfl ?_
    refine w_iconst (v := 3) dX12_isOnce_15 rfl ?_
    obtain ⟨e1, w⟩ := w
    refine w_callV (As := [.int 3]) (st := []) dX12_isOnce_16 mt_X12_wrong g_1595 g_1597 g_78 rfl e1 rfl rfl (Nat.le_of_ble_eq_true rfl) (Nat.le_refl _) ⟨Nat.le_refl _, Nat.le_refl _⟩ w ?_
    rintro v h4 ⟨rfl, w⟩
    refine w_iconst (v := 0) dX12_isOnce_19 rfl ?_
    exact w_ireturn dX12_isOnce_20 rfl rfl ⟨Nat.le_refl _, Nat.le_refl _⟩ w
set_option maxRecDepth 20000 in
set_option maxHeartbeats 4000000 in
theorem x_X12_readLine {G : pm_G} {d : Nat} {post : pm_PT} {h : pm_H} {l0 : Nat} (w :
    (h.1[l0]? = some (0, 11)) ∧
    ci G d m_X12_isWord [.ref l0, .int 0] h fun r1 h2 =>
    if r1 = 0 then (
      (h2.1[l0]? = some (0, 11)) ∧
      ci G d m_X12_isWord [.ref l0, .int 1] h2 fun r3 h4 =>
      if r3 = 0 then (
        (h4.1[l0]? = some (0, 11)) ∧
        ci G d m_X12_isWord [.ref l0, .int 2] h4 fun r5 h6 =>
        if r5 = 0 then (
          (h6.1[l0]? = some (0, 11)) ∧
          ci G d m_X12_isWord [.ref l0, .int 5] h6 fun r7 h8 =>
          if r7 = 0 then (
            (h8.1[l0]? = some (0, 11)) ∧
            ci G d m_X12_isWord [.ref l0, .int 6] h8 fun r9 h10 =>
            if r9 = 0 then (
              (h10.1[l0]? = some (0, 11)) ∧
              cv G d m_X12_wrong [.ref l0, .int 1] h10 fun h12 =>
              post none h12
            ) else (
              (h10.1[l0]? = some (0, 11)) ∧
              ci G d m_X12_isOnce [.ref l0, .int 1] h10 fun r13 h14 =>
              if r13 = 0 then (
                post none h14
              ) else (
                (h14.1[l0]? = some (0, 11)) ∧
                ∃ n15 : Nat, h14.1[gp h14 l0 10]? = some (1, n15) ∧
                (vp_in 94 n15) ∧
                ∀ h16 : pm_H, h16 = si h14 (gp h14 l0 10) (94 : Int32).toNatClampNeg (gi h14 l0 12) →
                cv G d m_X12_allOf [.ref l0, .int 0] h16 fun h18 =>
                (h18.1[l0]? = some (0, 11)) ∧
                cv G d m_X12_emit [.ref l0, .int 0, .int 0] h18 fun h20 =>
                post none h20
              )
            )
          ) else (
            (h8.1[l0]? = some (0, 11)) ∧
            ci G d m_X12_isOnce [.ref l0, .int 0] h8 fun r21 h22 =>
            if r21 = 0 then (
              post none h22
            ) else (
              (h22.1[l0]? = some (0, 11)) ∧
              ci G d m_X12_takeNumber [.ref l0, .int 0, .int 6] h22 fun r23 h24 =>
              ∃ n25 : Nat, h24.1[gp h22 l0 10]? = some (1, n25) ∧
              (vp_in 93 n25) ∧
              ∀ h26 : pm_H, h26 = si h24 (gp h22 l0 10) (93 : Int32).toNatClampNeg r23 →
              post none h26
            )
          )
        ) else (
          (h6.1[l0]? = some (0, 11)) ∧
          cv G d m_X12_readItem [.ref l0] h6 fun h28 =>
          post none h28
        )
      ) else (
        (h4.1[l0]? = some (0, 11)) ∧
        ci G d m_X12_read [.ref l0, .int 1] h4 fun r29 h30 =>
        (h30.1[l0]? = some (0, 11)) ∧
        cv G d m_X12_readName [.ref l0, .int 3, .int r29, .int 2] h30 fun h32 =>
        (h32.1[l0]? = some (0, 11)) ∧
        ci G d m_X12_takeOne [.ref l0, .int 11, .int 4] h32 fun r33 h34 =>
        (h34.1[l0]? = some (0, 11)) ∧
        if (gi h34 l0 8) = 0 then (
          ci G d m_X12_read [.ref l0, .int 1] h34 fun r35 h36 =>
          ∃ n37 : Nat, h36.1[gp h34 l0 10]? = some (1, n37) ∧
          (vp_in (95 + r35) n37) ∧
          ∀ h38 : pm_H, h38 = si h36 (gp h34 l0 10) (95 + r35 : Int32).toNatClampNeg r33 →
          (h36.1[l0]? = some (0, 11)) ∧
          ∃ n39 : Nat, h36.1[gp h38 l0 10]? = some (1, n39) ∧
          (vp_in 91 n39) ∧
          ∀ h40 : pm_H, h40 = si h38 (gp h38 l0 10) (91 : Int32).toNatClampNeg ((gi h38 (gp h38 l0 10) (91 : Int32).toNatClampNeg) + 1) →
          post none h40
        ) else (
          post none h34
        )
      )
    ) else (
      (h2.1[l0]? = some (0, 11)) ∧
      ci G d m_X12_read [.ref l0, .int 0] h2 fun r41 h42 =>
      (h42.1[l0]? = some (0, 11)) ∧
      cv G d m_X12_readName [.ref l0, .int 0, .int r41, .int 3] h42 fun h44 =>
      (h44.1[l0]? = some (0, 11)) ∧
      ∃ n45 : Nat, h44.1[gp h44 l0 10]? = some (1, n45) ∧
      (vp_in 90 n45) ∧
      if (gi h44 l0 8) ≤ 0 then (
        ∀ h46 : pm_H, h46 = si h44 (gp h44 l0 10) (90 : Int32).toNatClampNeg ((gi h44 (gp h44 l0 10) (90 : Int32).toNatClampNeg) + 1) →
        post none h46
      ) else (
        ∀ h47 : pm_H, h47 = si h44 (gp h44 l0 10) (90 : Int32).toNatClampNeg ((gi h44 (gp h44 l0 10) (90 : Int32).toNatClampNeg) + 0) →
        post none h47
      )
    )) :
    Wp G (m_X12_readLine, d + 1, 0, 0, post) (0, 0) 0 [.ref l0, .null] [] h := by
  refine w_aload_n dX12_readLine_0 rfl ?_
  refine w_iconst (v := 0) dX12_readLine_1 rfl ?_
  obtain ⟨e1, w⟩ := w
  refine w_callV (As := [.int 0]) (st := []) dX12_readLine_2 mt_X12_isWord g_1583 g_1585 g_75 rfl e1 rfl rfl (Nat.le_of_ble_eq_true rfl) (Nat.le_refl _) ⟨Nat.le_refl _, Nat.le_refl _⟩ w ?_
  rintro v h2 ⟨r1, rfl, w⟩
  refine w_if_eq (tgt := 44) dX12_readLine_5 rfl (fun c => ?_) (fun c => ?_)
  · rw [if_pos c] at w
    refine w_aload_n dX12_readLine_44 rfl ?_
    refine w_iconst (v := 1) dX12_readLine_45 rfl ?_
    obtain ⟨e1, w⟩ := w
    refine w_callV (As := [.int 1]) (st := []) dX12_readLine_46 mt_X12_isWord g_1583 g_1585 g_75 rfl e1 rfl rfl (Nat.le_of_ble_eq_true rfl) (Nat.le_refl _) ⟨Nat.le_refl _, Nat.le_refl _⟩ w ?_
    rintro v h4 ⟨r3, rfl, w⟩
    refine w_if_eq (tgt := 106) dX12_readLine_49 rfl (fun c => ?_) (fun c => ?_)
    · rw [if_pos c] at w
      refine w_aload_n dX12_readLine_106 rfl ?_
      refine w_iconst (v := 2) dX12_readLine_107 rfl ?_
      obtain ⟨e1, w⟩ := w
      refine w_callV (As := [.int 2]) (st := []) dX12_readLine_108 mt_X12_isWord g_1583 g_1585 g_75 rfl e1 rfl rfl (Nat.le_of_ble_eq_true rfl) (Nat.le_refl _) ⟨Nat.le_refl _, Nat.le_refl _⟩ w ?_
      rintro v h6 ⟨r5, rfl, w⟩
      refine w_if_eq (tgt := 121) dX12_readLine_111 rfl (fun c => ?_) (fun c => ?_)
      · rw [if_pos c] at w
        refine w_aload_n dX12_readLine_121 rfl ?_
        refine w_iconst (v := 5) dX12_readLine_122 rfl ?_
        obtain ⟨e1, w⟩ := w
        refine w_callV (As := [.int 5]) (st := []) dX12_readLine_123 mt_X12_isWord g_1583 g_1585 g_75 rfl e1 rfl rfl (Nat.le_of_ble_eq_true rfl) (Nat.le_refl _) ⟨Nat.le_refl _, Nat.le_refl _⟩ w ?_
        rintro v h8 ⟨r7, rfl, w⟩
        refine w_if_eq (tgt := 154) dX12_readLine_126 rfl (fun c => ?_) (fun c => ?_)
        · rw [if_pos c] at w
          refine w_aload_n dX12_readLine_154 rfl ?_
          refine w_bipush (v := 6) dX12_readLine_155 rfl ?_
          obtain ⟨e1, w⟩ := w
          refine w_callV (As := [.int 6]) (st := []) dX12_readLine_157 mt_X12_isWord g_1583 g_1585 g_75 rfl e1 rfl rfl (Nat.le_of_ble_eq_true rfl) (Nat.le_refl _) ⟨Nat.le_refl _, Nat.le_refl _⟩ w ?_
          rintro v h10 ⟨r9, rfl, w⟩
          refine w_if_ne (tgt := 171) dX12_readLine_160 rfl (fun c => ?_) (fun c => ?_)
          · rw [if_neg c] at w
            refine w_aload_n dX12_readLine_171 rfl ?_
            refine w_iconst (v := 1) dX12_readLine_172 rfl ?_
            obtain ⟨e1, w⟩ := w
            refine w_callV (As := [.int 1]) (st := []) dX12_readLine_173 mt_X12_isOnce g_1635 g_1637 g_88 rfl e1 rfl rfl (Nat.le_of_ble_eq_true rfl) (Nat.le_refl _) ⟨Nat.le_refl _, Nat.le_refl _⟩ w ?_
            rintro v h14 ⟨r13, rfl, w⟩
            refine w_if_eq (tgt := 201) dX12_readLine_176 rfl (fun c => ?_) (fun c => ?_)
            · rw [if_pos c] at w
              exact w_return dX12_readLine_201 rfl ⟨Nat.le_refl _, Nat.le_refl _⟩ w
            · rw [if_neg c] at w
              refine w_aload_n dX12_readLine_179 rfl ?_
              obtain ⟨e1, w⟩ := w
              refine w_getp dX12_readLine_180 lk_RX12_79 e1 rfl ?_
              refine w_bipush (v := 94) dX12_readLine_183 rfl ?_
              refine w_aload_n dX12_readLine_185 rfl ?_
              refine w_geti dX12_readLine_186 lk_RX12_175 e1 rfl ?_
              obtain ⟨n15, ln15, w⟩ := w
              obtain ⟨e3, w⟩ := w
              refine w_iast dX12_readLine_189 ln15 e3 ?_
              have w := w _ rfl
              refine w_aload_n dX12_readLine_190 rfl ?_
              refine w_iconst (v := 0) dX12_readLine_191 rfl ?_
              refine w_callV (As := [.int 0]) (st := []) dX12_readLine_192 mt_X12_allOf g_1639 g_1641 g_89 rfl e1 rfl rfl (Nat.le_of_ble_eq_true rfl) (Nat.le_refl _) ⟨Nat.le_refl _, Nat.le_refl _⟩ w ?_
              rintro v h18 ⟨rfl, w⟩
              refine w_aload_n dX12_readLine_195 rfl ?_
              refine w_iconst (v := 0) dX12_readLine_196 rfl ?_
              refine w_iconst (v := 0) dX12_readLine_197 rfl ?_
              obtain ⟨e1, w⟩ := w
              refine w_callV (As := [.int 0, .int 0]) (st := []) dX12_readLine_198 mt_X12_emit g_1663 g_1665 g_95 rfl e1 rfl rfl (Nat.le_of_ble_eq_true rfl) (Nat.le_refl _) ⟨Nat.le_refl _, Nat.le_refl _⟩ w ?_
              rintro v h20 ⟨rfl, w⟩
              exact w_return dX12_readLine_201 rfl ⟨Nat.le_refl _, Nat.le_refl _⟩ w
          · rw [if_pos c] at w
            refine w_aload_n dX12_readLine_163 rfl ?_
            refine w_iconst (v := 1) dX12_readLine_164 rfl ?_
            obtain ⟨e1, w⟩ := w
            refine w_callV (As := [.int 1]) (st := []) dX12_readLine_165 mt_X12_wrong g_1595 g_1597 g_78 rfl e1 rfl rfl (Nat.le_of_ble_eq_true rfl) (Nat.le_refl _) ⟨Nat.le_refl _, Nat.le_refl _⟩ w ?_
            rintro v h12 ⟨rfl, w⟩
            refine w_goto (tgt := 201) dX12_readLine_168 rfl ?_
            exact w_return dX12_readLine_201 rfl ⟨Nat.le_refl _, Nat.le_refl _⟩ w
        · rw [if_neg c] at w
          refine w_aload_n dX12_readLine_129 rfl ?_
          refine w_iconst (v := 0) dX12_readLine_130 rfl ?_
          obtain ⟨e1, w⟩ := w
          refine w_callV (As := [.int 0]) (st := []) dX12_readLine_131 mt_X12_isOnce g_1635 g_1637 g_88 rfl e1 rfl rfl (Nat.le_of_ble_eq_true rfl) (Nat.le_refl _) ⟨Nat.le_refl _, Nat.le_refl _⟩ w ?_
          rintro v h22 ⟨r21, rfl, w⟩
          refine w_if_eq (tgt := 201) dX12_readLine_134 rfl (fun c => ?_) (fun c => ?_)
          · rw [if_pos c] at w
            exact w_return dX12_readLine_201 rfl ⟨Nat.le_refl _, Nat.le_refl _⟩ w
          · rw [if_neg c] at w
            refine w_aload_n dX12_readLine_137 rfl ?_
            obtain ⟨e1, w⟩ := w
            refine w_getp dX12_readLine_138 lk_RX12_79 e1 rfl ?_
            refine w_bipush (v := 93) dX12_readLine_141 rfl ?_
            refine w_aload_n dX12_readLine_143 rfl ?_
            refine w_iconst (v := 0) dX12_readLine_144 rfl ?_
            refine w_bipush (v := 6) dX12_readLine_145 rfl ?_
            refine w_callV (As := [.int 0, .int 6]) (st := [.int 93, .ref (gp h22 l0 10)]) dX12_readLine_147 mt_X12_takeNumber g_1619 g_1621 g_84 rfl e1 rfl rfl (Nat.le_of_ble_eq_true rfl) (Nat.le_refl _) ⟨Nat.le_refl _, Nat.le_refl _⟩ w ?_
            rintro v h24 ⟨r23, rfl, w⟩
            obtain ⟨n25, ln25, w⟩ := w
            obtain ⟨e2, w⟩ := w
            refine w_iast dX12_readLine_150 ln25 e2 ?_
            have w := w _ rfl
            refine w_goto (tgt := 201) dX12_readLine_151 rfl ?_
            exact w_return dX12_readLine_201 rfl ⟨Nat.le_refl _, Nat.le_refl _⟩ w
      · rw [if_neg c] at w
        refine w_aload_n dX12_readLine_114 rfl ?_
        obtain ⟨e1, w⟩ := w
        refine w_callV (As := []) (st := []) dX12_readLine_115 mt_X12_readItem g_1615 g_1617 g_83 rfl e1 rfl rfl (Nat.le_of_ble_eq_true rfl) (Nat.le_refl _) ⟨Nat.le_refl _, Nat.le_refl _⟩ w ?_
        rintro v h28 ⟨rfl, w⟩
        refine w_goto (tgt := 201) dX12_readLine_118 rfl ?_
        exact w_return dX12_readLine_201 rfl ⟨Nat.le_refl _, Nat.le_refl _⟩ w
    · rw [if_neg c] at w
      refine w_aload_n dX12_readLine_52 rfl ?_
      refine w_iconst (v := 3) dX12_readLine_53 rfl ?_
      refine w_aload_n dX12_readLine_54 rfl ?_
      refine w_iconst (v := 1) dX12_readLine_55 rfl ?_
      obtain ⟨e1, w⟩ := w
      refine w_callV (As := [.int 1]) (st := [.int 3, .ref l0]) dX12_readLine_56 mt_X12_read g_1587 g_1589 g_76 rfl e1 rfl rfl (Nat.le_of_ble_eq_true rfl) (Nat.le_refl _) ⟨Nat.le_refl _, Nat.le_refl _⟩ w ?_
      rintro v h30 ⟨r29, rfl, w⟩
      refine w_iconst (v := 2) dX12_readLine_59 rfl ?_
      obtain ⟨e1, w⟩ := w
      refine w_callV (As := [.int 3, .int r29, .int 2]) (st := []) dX12_readLine_60 mt_X12_readName g_1591 g_1593 g_77 rfl e1 rfl rfl (Nat.le_of_ble_eq_true rfl) (Nat.le_refl _) ⟨Nat.le_refl _, Nat.le_refl _⟩ w ?_
      rintro v h32 ⟨rfl, w⟩
      refine w_aload_n dX12_readLine_63 rfl ?_
      refine w_bipush (v := 11) dX12_readLine_64 rfl ?_
      refine w_iconst (v := 4) dX12_readLine_66 rfl ?_
      obtain ⟨e1, w⟩ := w
      refine w_callV (As := [.int 11, .int 4]) (st := []) dX12_readLine_67 mt_X12_takeOne g_1611 g_1613 g_82 rfl e1 rfl rfl (Nat.le_of_ble_eq_true rfl) (Nat.le_refl _) ⟨Nat.le_refl _, Nat.le_refl _⟩ w ?_
      rintro v h34 ⟨r33, rfl, w⟩
      refine v_istore_n (l' := [.ref l0, .int r33]) dX12_readLine_70 (Nat.le_of_ble_eq_true rfl) rfl ?_
      refine w_aload_n dX12_readLine_71 rfl ?_
      obtain ⟨e1, w⟩ := w
      refine w_geti dX12_readLine_72 lk_RX12_146 e1 rfl ?_
      refine w_if_ne (tgt := 103) dX12_readLine_75 rfl (fun c => ?_) (fun c => ?_)
      · rw [if_neg c] at w
        refine w_goto (tgt := 201) dX12_readLine_103 rfl ?_
        exact w_return dX12_readLine_201 rfl ⟨Nat.le_refl _, Nat.le_refl _⟩ w
      · rw [if_pos c] at w
        refine w_aload_n dX12_readLine_78 rfl ?_
        refine w_getp dX12_readLine_79 lk_RX12_79 e1 rfl ?_
        refine w_bipush (v := 95) dX12_readLine_82 rfl ?_
        refine w_aload_n dX12_readLine_84 rfl ?_
        refine w_iconst (v := 1) dX12_readLine_85 rfl ?_
        refine w_callV (As := [.int 1]) (st := [.int 95, .ref (gp h34 l0 10)]) dX12_readLine_86 mt_X12_read g_1587 g_1589 g_76 rfl e1 rfl rfl (Nat.le_of_ble_eq_true rfl) (Nat.le_refl _) ⟨Nat.le_refl _, Nat.le_refl _⟩ w ?_
        rintro v h36 ⟨r35, rfl, w⟩
        refine w_iadd dX12_readLine_89 ?_
        refine w_iload_n dX12_readLine_90 rfl ?_
        obtain ⟨n37, ln37, w⟩ := w
        obtain ⟨e2, w⟩ := w
        refine w_iast dX12_readLine_91 ln37 e2 ?_
        have w := w _ rfl
        refine w_aload_n dX12_readLine_92 rfl ?_
        obtain ⟨e3, w⟩ := w
        refine w_getp dX12_readLine_93 lk_RX12_79 e3 rfl ?_
        refine w_bipush (v := 91) dX12_readLine_96 rfl ?_
        refine w_dup2 dX12_readLine_98 rfl rfl ?_
        obtain ⟨n39, ln39, w⟩ := w
        obtain ⟨e5, w⟩ := w
        refine w_iald dX12_readLine_99 ln39 e5 ?_
        refine w_iconst (v := 1) dX12_readLine_100 rfl ?_
        refine w_iadd dX12_readLine_101 ?_
        refine w_iast dX12_readLine_102 ln39 e5 ?_
        have w := w _ rfl
        refine w_goto (tgt := 201) dX12_readLine_103 rfl ?_
        exact w_return dX12_readLine_201 rfl ⟨Nat.le_refl _, Nat.le_refl _⟩ w
  · rw [if_neg c] at w
    refine w_aload_n dX12_readLine_8 rfl ?_
    refine w_iconst (v := 0) dX12_readLine_9 rfl ?_
    refine w_aload_n dX12_readLine_10 rfl ?_
    refine w_iconst (v := 0) dX12_readLine_11 rfl ?_
    obtain ⟨e1, w⟩ := w
    refine w_callV (As := [.int 0]) (st := [.int 0, .ref l0]) dX12_readLine_12 mt_X12_read g_1587 g_1589 g_76 rfl e1 rfl rfl (Nat.le_of_ble_eq_true rfl) (Nat.le_refl _) ⟨Nat.le_refl _, Nat.le_refl _⟩ w ?_
    rintro v h42 ⟨r41, rfl, w⟩
    refine w_iconst (v := 3) dX12_readLine_15 rfl ?_
    obtain ⟨e1, w⟩ := w
    refine w_callV (As := [.int 0, .int r41, .int 3]) (st := []) dX12_readLine_16 mt_X12_readName g_1591 g_1593 g_77 rfl e1 rfl rfl (Nat.le_of_ble_eq_true rfl) (Nat.le_refl _) ⟨Nat.le_refl _, Nat.le_refl _⟩ w ?_
    rintro v h44 ⟨rfl, w⟩
    refine w_aload_n dX12_readLine_19 rfl ?_
    obtain ⟨e1, w⟩ := w
    refine w_getp dX12_readLine_20 lk_RX12_79 e1 rfl ?_
    refine w_bipush (v := 90) dX12_readLine_23 rfl ?_
    refine w_dup2 dX12_readLine_25 rfl rfl ?_
    obtain ⟨n45, ln45, w⟩ := w
    obtain ⟨e3, w⟩ := w
    refine w_iald dX12_readLine_26 ln45 e3 ?_
    refine w_aload_n dX12_readLine_27 rfl ?_
    refine w_geti dX12_readLine_28 lk_RX12_146 e1 rfl ?_
    refine w_if_le (tgt := 38) dX12_readLine_31 rfl (fun c => ?_) (fun c => ?_)
    · rw [if_pos c] at w
      refine w_iconst (v := 1) dX12_readLine_38 rfl ?_
      refine w_iadd dX12_readLine_39 ?_
      refine w_iast dX12_readLine_40 ln45 e3 ?_
      have w := w _ rfl
      refine w_goto (tgt := 201) dX12_readLine_41 rfl ?_
      exact w_return dX12_readLine_201 rfl ⟨Nat.le_refl _, Nat.le_refl _⟩ w
    · rw [if_neg c] at w
      refine w_iconst (v := 0) dX12_readLine_34 rfl ?_
      refine w_goto (tgt := 39) dX12_readLine_35 rfl ?_
      refine w_iadd dX12_readLine_39 ?_
      refine w_iast dX12_readLine_40 ln45 e3 ?_
      have w := w _ rfl
      refine w_goto (tgt := 201) dX12_readLine_41 rfl ?_
      exact w_return dX12_readLine_201 rfl ⟨Nat.le_refl _, Nat.le_refl _⟩ w
set_option maxRecDepth 20000 in
set_option maxHeartbeats 4000000 in
theorem x_X12_readItem {G : pm_G} {d : Nat} {post : pm_PT} {h : pm_H} {l0 : Nat} (w :
    (h.1[l0]? = some (0, 11)) ∧
    ci G d m_X12_read [.ref l0, .int 2] h fun r1 h2 =>
    (h2.1[l0]? = some (0, 11)) ∧
    cv G d m_X12_readName [.ref l0, .int 5, .int r1, .int 20] h2 fun h4 =>
    (h4.1[l0]? = some (0, 11)) ∧
    ci G d m_X12_takeOne [.ref l0, .int 11, .int 4] h4 fun r5 h6 =>
    (h6.1[l0]? = some (0, 11)) ∧
    ci G d m_X12_takeNumber [.ref l0, .int 0, .int 999] h6 fun r7 h8 =>
    (h8.1[l0]? = some (0, 11)) ∧
    cv G d m_X12_takeWord [.ref l0, .int 3] h8 fun h10 =>
    (h10.1[l0]? = some (0, 11)) ∧
    ci G d m_X12_takeNumber [.ref l0, .int 1, .int 99] h10 fun r11 h12 =>
    (h12.1[l0]? = some (0, 11)) ∧
    cv G d m_X12_takeWord [.ref l0, .int 4] h12 fun h14 =>
    (h14.1[l0]? = some (0, 11)) ∧
    ci G d m_X12_read [.ref l0, .int 0] h14 fun r15 h16 =>
    (h16.1[l0]? = some (0, 11)) ∧
    ci G d m_X12_takeTold [.ref l0, .int 25, .int r15, .int (-1)] h16 fun r17 h18 =>
    (h18.1[l0]? = some (0, 11)) ∧
    if (gi h18 l0 8) = 0 then (
      ∃ n19 : Nat, h18.1[gp h18 l0 10]? = some (1, n19) ∧
      (vp_in (97 + (4 * r1)) n19) ∧
      ∀ h20 : pm_H, h20 = si h18 (gp h18 l0 10) (97 + (4 * r1) : Int32).toNatClampNeg r5 →
      ∃ n21 : Nat, h18.1[gp h20 l0 10]? = some (1, n21) ∧
      (vp_in ((97 + (4 * r1)) + 1) n21) ∧
      ∀ h22 : pm_H, h22 = si h20 (gp h20 l0 10) ((97 + (4 * r1)) + 1 : Int32).toNatClampNeg r7 →
      ∃ n23 : Nat, h18.1[gp h22 l0 10]? = some (1, n23) ∧
      (vp_in ((97 + (4 * r1)) + 2) n23) ∧
      ∀ h24 : pm_H, h24 = si h22 (gp h22 l0 10) ((97 + (4 * r1)) + 2 : Int32).toNatClampNeg r11 →
      ∃ n25 : Nat, h18.1[gp h24 l0 10]? = some (1, n25) ∧
      (vp_in ((97 + (4 * r1)) + 3) n25) ∧
      ∀ h26 : pm_H, h26 = si h24 (gp h24 l0 10) ((97 + (4 * r1)) + 3 : Int32).toNatClampNeg r17 →
      ∃ n27 : Nat, h18.1[gp h26 l0 10]? = some (1, n27) ∧
      (vp_in 92 n27) ∧
      ∀ h28 : pm_H, h28 = si h26 (gp h26 l0 10) (92 : Int32).toNatClampNeg ((gi h26 (gp h26 l0 10) (92 : Int32).toNatClampNeg) + 1) →
      post none h28
    ) else (
      post none h18
    )) :
    Wp G (m_X12_readItem, d + 1, 0, 0, post) (0, 0) 0 [.ref l0, .null, .null, .null, .null, .null, .null] [] h := by
  refine w_aload_n dX12_readItem_0 rfl ?_
  refine w_iconst (v := 2) dX12_readItem_1 rfl ?_
  obtain ⟨e1, w⟩ := w
  refine w_callV (As := [.int 2]) (st := []) dX12_readItem_2 mt_X12_read g_1587 g_1589 g_76 rfl e1 rfl rfl (Nat.le_of_ble_eq_true rfl) (Nat.le_refl _) ⟨Nat.le_refl _, Nat.le_refl _⟩ w ?_
  rintro v h2 ⟨r1, rfl, w⟩
  refine v_istore_n (l' := [.ref l0, .int r1, .null, .null, .null, .null, .null]) dX12_readItem_5 (Nat.le_of_ble_eq_true rfl) rfl ?_
  refine w_aload_n dX12_readItem_6 rfl ?_
  refine w_iconst (v := 5) dX12_readItem_7 rfl ?_
  refine w_iload_n dX12_readItem_8 rfl ?_
  refine w_bipush (v := 20) dX12_readItem_9 rfl ?_
  obtain ⟨e1, w⟩ := w
  refine w_callV (As := [.int 5, .int r1, .int 20]) (st := []) dX12_readItem_11 mt_X12_readName g_1591 g_1593 g_77 rfl e1 rfl rfl (Nat.le_of_ble_eq_true rfl) (Nat.le_refl _) ⟨Nat.le_refl _, Nat.le_refl _⟩ w ?_
  rintro v h4 ⟨rfl, w⟩
  refine w_aload_n dX12_readItem_14 rfl ?_
  refine w_bipush (v := 11) dX12_readItem_15 rfl ?_
  refine w_iconst (v := 4) dX12_readItem_17 rfl ?_
  obtain ⟨e1, w⟩ := w
  refine w_callV (As := [.int 11, .int 4]) (st := []) dX12_readItem_18 mt_X12_takeOne g_1611 g_1613 g_82 rfl e1 rfl rfl (Nat.le_of_ble_eq_true rfl) (Nat.le_refl _) ⟨Nat.le_refl _, Nat.le_refl _⟩ w ?_
  rintro v h6 ⟨r5, rfl, w⟩
  refine v_istore_n (l' := [.ref l0, .int r1, .int r5, .null, .null, .null, .null]) dX12_readItem_21 (Nat.le_of_ble_eq_true rfl) rfl ?_
  refine w_aload_n dX12_readItem_22 rfl ?_
  refine w_iconst (v := 0) dX12_readItem_23 rfl ?_
  refine w_sipush (v := 999) dX12_readItem_24 rfl ?_
  obtain ⟨e1, w⟩ := w
  refine w_callV (As := [.int 0, .int 999]) (st := []) dX12_readItem_27 mt_X12_takeNumber g_1619 g_1621 g_84 rfl e1 rfl rfl (Nat.le_of_ble_eq_true rfl) (Nat.le_refl _) ⟨Nat.le_refl _, Nat.le_refl _⟩ w ?_
  rintro v h8 ⟨r7, rfl, w⟩
  refine v_istore_n (l' := [.ref l0, .int r1, .int r5, .int r7, .null, .null, .null]) dX12_readItem_30 (Nat.le_of_ble_eq_true rfl) rfl ?_
  refine w_aload_n dX12_readItem_31 rfl ?_
  refine w_iconst (v := 3) dX12_readItem_32 rfl ?_
  obtain ⟨e1, w⟩ := w
  refine w_callV (As := [.int 3]) (st := []) dX12_readItem_33 mt_X12_takeWord g_1623 g_1625 g_85 rfl e1 rfl rfl (Nat.le_of_ble_eq_true rfl) (Nat.le_refl _) ⟨Nat.le_refl _, Nat.le_refl _⟩ w ?_
  rintro v h10 ⟨rfl, w⟩
  refine w_aload_n dX12_readItem_36 rfl ?_
  refine w_iconst (v := 1) dX12_readItem_37 rfl ?_
  refine w_bipush (v := 99) dX12_readItem_38 rfl ?_
  obtain ⟨e1, w⟩ := w
  refine w_callV (As := [.int 1, .int 99]) (st := []) dX12_readItem_40 mt_X12_takeNumber g_1619 g_1621 g_84 rfl e1 rfl rfl (Nat.le_of_ble_eq_true rfl) (Nat.le_refl _) ⟨Nat.le_refl _, Nat.le_refl _⟩ w ?_
  rintro v h12 ⟨r11, rfl, w⟩
  refine v_istore (l' := [.ref l0, .int r1, .int r5, .int r7, .int r11, .null, .null]) dX12_readItem_43 (Nat.le_of_ble_eq_true rfl) rfl ?_
  refine w_aload_n dX12_readItem_45 rfl ?_
  refine w_iconst (v := 4) dX12_readItem_46 rfl ?_
  obtain ⟨e1, w⟩ := w
  refine w_callV (As := [.int 4]) (st := []) dX12_readItem_47 mt_X12_takeWord g_1623 g_1625 g_85 rfl e1 rfl rfl (Nat.le_of_ble_eq_true rfl) (Nat.le_refl _) ⟨Nat.le_refl _, Nat.le_refl _⟩ w ?_
  rintro v h14 ⟨rfl, w⟩
  refine w_aload_n dX12_readItem_50 rfl ?_
  refine w_bipush (v := 25) dX12_readItem_51 rfl ?_
  refine w_aload_n dX12_readItem_53 rfl ?_
  refine w_iconst (v := 0) dX12_readItem_54 rfl ?_
  obtain ⟨e1, w⟩ := w
  refine w_callV (As := [.int 0]) (st := [.int 25, .ref l0]) dX12_readItem_55 mt_X12_read g_1587 g_1589 g_76 rfl e1 rfl rfl (Nat.le_of_ble_eq_true rfl) (Nat.le_refl _) ⟨Nat.le_refl _, Nat.le_refl _⟩ w ?_
  rintro v h16 ⟨r15, rfl, w⟩
  refine w_iconst (v := (-1)) dX12_readItem_58 rfl ?_
  obtain ⟨e1, w⟩ := w
  refine w_callV (As := [.int 25, .int r15, .int (-1)]) (st := []) dX12_readItem_59 mt_X12_takeTold g_1631 g_1633 g_87 rfl e1 rfl rfl (Nat.le_of_ble_eq_true rfl) (Nat.le_refl _) ⟨Nat.le_refl _, Nat.le_refl _⟩ w ?_
  rintro v h18 ⟨r17, rfl, w⟩
  refine v_istore (l' := [.ref l0, .int r1, .int r5, .int r7, .int r11, .int r17, .null]) dX12_readItem_62 (Nat.le_of_ble_eq_true rfl) rfl ?_
  refine w_aload_n dX12_readItem_64 rfl ?_
  obtain ⟨e1, w⟩ := w
  refine w_geti dX12_readItem_65 lk_RX12_146 e1 rfl ?_
  refine w_if_ne (tgt := 130) dX12_readItem_68 rfl (fun c => ?_) (fun c => ?_)
  · rw [if_neg c] at w
    exact w_return dX12_readItem_130 rfl ⟨Nat.le_refl _, Nat.le_refl _⟩ w
  · rw [if_pos c] at w
    refine w_bipush (v := 97) dX12_readItem_71 rfl ?_
    refine w_iconst (v := 4) dX12_readItem_73 rfl ?_
    refine w_iload_n dX12_readItem_74 rfl ?_
    refine w_imul dX12_readItem_75 ?_
    refine w_iadd dX12_readItem_76 ?_
    refine v_istore (l' := [.ref l0, .int r1, .int r5, .int r7, .int r11, .int r17, .int (97 + (4 * r1))]) dX12_readItem_77 (Nat.le_of_ble_eq_true rfl) rfl ?_
    refine w_aload_n dX12_readItem_79 rfl ?_
    refine w_getp dX12_readItem_80 lk_RX12_79 e1 rfl ?_
    refine w_iload dX12_readItem_83 rfl ?_
    refine w_iload_n dX12_readItem_85 rfl ?_
    obtain ⟨n19, ln19, w⟩ := w
    obtain ⟨e3, w⟩ := w
    refine w_iast dX12_readItem_86 ln19 e3 ?_
    have w := w _ rfl
    refine w_aload_n dX12_readItem_87 rfl ?_
    refine w_getp dX12_readItem_88 lk_RX12_79 e1 rfl ?_
    refine w_iload dX12_readItem_91 rfl ?_
    refine w_iconst (v := 1) dX12_readItem_93 rfl ?_
    refine w_iadd dX12_readItem_94 ?_
    refine w_iload_n dX12_readItem_95 rfl ?_
    obtain ⟨n21, ln21, w⟩ := w
    obtain ⟨e5, w⟩ := w
    refine w_iast dX12_readItem_96 ln21 e5 ?_
    have w := w _ rfl
    refine w_aload_n dX12_readItem_97 rfl ?_
    refine w_getp dX12_readItem_98 lk_RX12_79 e1 rfl ?_
    refine w_iload dX12_readItem_101 rfl ?_
    refine w_iconst (v := 2) dX12_readItem_103 rfl ?_
    refine w_iadd dX12_readItem_104 ?_
    refine w_iload dX12_readItem_105 rfl ?_
    obtain ⟨n23, ln23, w⟩ := w
    obtain ⟨e7, w⟩ := w
    refine w_iast dX12_readItem_107 ln23 e7 ?_
    have w := w _ rfl
    refine w_aload_n dX12_readItem_108 rfl ?_
    refine w_getp dX12_readItem_109 lk_RX12_79 e1 rfl ?_
    refine w_iload dX12_readItem_112 rfl ?_
    refine w_iconst (v := 3) dX12_readItem_114 rfl ?_
    refine w_iadd dX12_readItem_115 ?_
    refine w_iload dX12_readItem_116 rfl ?_
    obtain ⟨n25, ln25, w⟩ := w
    obtain ⟨e9, w⟩ := w
    refine w_iast dX12_readItem_118 ln25 e9 ?_
    have w := w _ rfl
    refine w_aload_n dX12_readItem_119 rfl ?_
    refine w_getp dX12_readItem_120 lk_RX12_79 e1 rfl ?_
    refine w_bipush (v := 92) dX12_readItem_123 rfl ?_
    refine w_dup2 dX12_readItem_125 rfl rfl ?_
    obtain ⟨n27, ln27, w⟩ := w
    obtain ⟨e11, w⟩ := w
    refine w_iald dX12_readItem_126 ln27 e11 ?_
    refine w_iconst (v := 1) dX12_readItem_127 rfl ?_
    refine w_iadd dX12_readItem_128 ?_
    refine w_iast dX12_readItem_129 ln27 e11 ?_
    have w := w _ rfl
    exact w_return dX12_readItem_130 rfl ⟨Nat.le_refl _, Nat.le_refl _⟩ w
set_option maxRecDepth 20000 in
set_option maxHeartbeats 4000000 in
theorem x_X12_work {G : pm_G} {d : Nat} {post : pm_PT} {h : pm_H} {l0 : Nat} (w :
    (h.1[l0]? = some (0, 11)) ∧
    ∀ h1 : pm_H, h1 = si h l0 0 0 →
    cv G d m_X12_cutAll [.ref l0] h1 fun h3 =>
    Wp G (m_X12_work, d + 1, 0, 0, post) (0, 0) 11 [.ref l0, .int 0, .null, .null, .null] [] h3) :
    Wp G (m_X12_work, d + 1, 0, 0, post) (0, 0) 0 [.ref l0, .null, .null, .null, .null] [] h := by
  refine w_aload_n dX12_work_0 rfl ?_
  refine w_iconst (v := 0) dX12_work_1 rfl ?_
  obtain ⟨e1, w⟩ := w
  refine w_puti dX12_work_2 lk_RX12_1 e1 rfl (Or.inl rfl) ?_
  have w := w _ rfl
  refine w_aload_n dX12_work_5 rfl ?_
  refine w_callV (As := []) (st := []) dX12_work_6 mt_X12_cutAll g_1560 g_1562 g_73 rfl e1 rfl rfl (Nat.le_of_ble_eq_true rfl) (Nat.le_refl _) ⟨Nat.le_refl _, Nat.le_refl _⟩ w ?_
  rintro v h3 ⟨rfl, w⟩
  refine w_iconst (v := 0) dX12_work_9 rfl ?_
  refine v_istore_n (l' := [.ref l0, .int 0, .null, .null, .null]) dX12_work_10 (Nat.le_of_ble_eq_true rfl) rfl ?_
  exact w
set_option maxRecDepth 20000 in
set_option maxHeartbeats 4000000 in
theorem x_X12_work_11 {G : pm_G} {d : Nat} {post : pm_PT} {h : pm_H} {l0 : Nat} {l1 : Int32} (w :
    (h.1[l0]? = some (0, 11)) ∧
    if (gi h l0 8) = 0 then (
      ∃ n1 : Nat, h.1[gp h l0 4]? = some (1, n1) ∧
      (vp_in (gi h l0 7) n1) ∧
      if (gi h (gp h l0 4) (gi h l0 7 : Int32).toNatClampNeg) = 0 then (
        Wp G (m_X12_work, d + 1, 0, 0, post) (0, 0) 204 [.ref l0, .int l1, .null, .null, .null] [] h
      ) else (
        ci G d m_X12_wordHere [.ref l0, .int 7, .int 4] h fun r2 h3 =>
        if 0 ≤ r2 then (
          if l1 = 30 then (
            (h3.1[l0]? = some (0, 11)) ∧
            cv G d m_X12_wrong [.ref l0, .int 5] h3 fun h5 =>
            (h5.1[l0]? = some (0, 11)) ∧
            cv G d m_X12_takeSign [.ref l0, .int 59] h5 fun h7 =>
            Wp G (m_X12_work, d + 1, 0, 0, post) (0, 0) 11 [.ref l0, .int l1, .null, .null, .null] [] h7
          ) else (
            (h3.1[l0]? = some (0, 11)) ∧
            ∀ h8 : pm_H, h8 = si h3 l0 7 ((gi h3 l0 7) + 1) →
            ∃ n9 : Nat, h3.1[gp h8 l0 14]? = some (1, n9) ∧
            (vp_in (95 + (3 * l1)) n9) ∧
            ∀ h10 : pm_H, h10 = si h8 (gp h8 l0 14) (95 + (3 * l1) : Int32).toNatClampNeg r2 →
            if r2 = 0 then (
              ci G d m_X12_items [.ref l0] h10 fun r11 h12 =>
              (h12.1[l0]? = some (0, 11)) ∧
              ci G d m_X12_takeTold [.ref l0, .int 5, .int r11, .int (-1)] h12 fun r13 h14 =>
              Wp G (m_X12_work, d + 1, 0, 0, post) (0, 0) 115 [.ref l0, .int l1, .int r2, .int (95 + (3 * l1)), .null] [.int r13] h14
            ) else (
              ci G d m_X12_heaps [.ref l0] h10 fun r15 h16 =>
              (h16.1[l0]? = some (0, 11)) ∧
              ci G d m_X12_takeTold [.ref l0, .int 0, .int r15, .int (-1)] h16 fun r17 h18 =>
              Wp G (m_X12_work, d + 1, 0, 0, post) (0, 0) 115 [.ref l0, .int l1, .int r2, .int (95 + (3 * l1)), .null] [.int r17] h18
            )
          )
        ) else (
          (h3.1[l0]? = some (0, 11)) ∧
          cv G d m_X12_wrong [.ref l0, .int 1] h3 fun h20 =>
          (h20.1[l0]? = some (0, 11)) ∧
          cv G d m_X12_takeSign [.ref l0, .int 59] h20 fun h22 =>
          Wp G (m_X12_work, d + 1, 0, 0, post) (0, 0) 11 [.ref l0, .int l1, .null, .null, .null] [] h22
        )
      )
    ) else (
      Wp G (m_X12_work, d + 1, 0, 0, post) (0, 0) 204 [.ref l0, .int l1, .null, .null, .null] [] h
    )) :
    Wp G (m_X12_work, d + 1, 0, 0, post) (0, 0) 11 [.ref l0, .int l1, .null, .null, .null] [] h := by
  refine w_aload_n dX12_work_11 rfl ?_
  obtain ⟨e1, w⟩ := w
  refine w_geti dX12_work_12 lk_RX12_146 e1 rfl ?_
  refine w_if_ne (tgt := 204) dX12_work_15 rfl (fun c => ?_) (fun c => ?_)
  · rw [if_neg c] at w
    exact w
  · rw [if_pos c] at w
    refine w_aload_n dX12_work_18 rfl ?_
    refine w_getp dX12_work_19 lk_RX12_24 e1 rfl ?_
    refine w_aload_n dX12_work_22 rfl ?_
    refine w_geti dX12_work_23 lk_RX12_143 e1 rfl ?_
    obtain ⟨n1, ln1, w⟩ := w
    obtain ⟨e3, w⟩ := w
    refine w_iald dX12_work_26 ln1 e3 ?_
    refine w_if_eq (tgt := 204) dX12_work_27 rfl (fun c => ?_) (fun c => ?_)
    · rw [if_pos c] at w
      exact w
    · rw [if_neg c] at w
      refine w_aload_n dX12_work_30 rfl ?_
      refine w_bipush (v := 7) dX12_work_31 rfl ?_
      refine w_iconst (v := 4) dX12_work_33 rfl ?_
      refine w_callV (As := [.int 7, .int 4]) (st := []) dX12_work_34 mt_X12_wordHere g_1603 g_1605 g_80 rfl e1 rfl rfl (Nat.le_of_ble_eq_true rfl) (Nat.le_refl _) ⟨Nat.le_refl _, Nat.le_refl _⟩ w ?_
      rintro v h3 ⟨r2, rfl, w⟩
      refine v_istore_n (l' := [.ref l0, .int l1, .int r2, .null, .null]) dX12_work_37 (Nat.le_of_ble_eq_true rfl) rfl ?_
      refine w_iload_n dX12_work_38 rfl ?_
      refine w_if_ge (tgt := 50) dX12_work_39 rfl (fun c => ?_) (fun c => ?_)
      · rw [if_pos c] at w
        refine w_iload_n dX12_work_50 rfl ?_
        refine w_bipush (v := 30) dX12_work_51 rfl ?_
        refine w_ic_ne (tgt := 64) dX12_work_53 rfl (fun c => ?_) (fun c => ?_)
        · rw [if_neg c] at w
          refine w_aload_n dX12_work_64 rfl ?_
          refine w_dup dX12_work_65 rfl ?_
          obtain ⟨e1, w⟩ := w
          refine w_geti dX12_work_66 lk_RX12_143 e1 rfl ?_
          refine w_iconst (v := 1) dX12_work_69 rfl ?_
          refine w_iadd dX12_work_70 ?_
          refine w_puti dX12_work_71 lk_RX12_143 e1 rfl (Or.inl rfl) ?_
          have w := w _ rfl
          refine w_bipush (v := 95) dX12_work_74 rfl ?_
          refine w_iconst (v := 3) dX12_work_76 rfl ?_
          refine w_iload_n dX12_work_77 rfl ?_
          refine w_imul dX12_work_78 ?_
          refine w_iadd dX12_work_79 ?_
          refine v_istore_n (l' := [.ref l0, .int l1, .int r2, .int (95 + (3 * l1)), .null]) dX12_work_80 (Nat.le_of_ble_eq_true rfl) rfl ?_
          refine w_aload_n dX12_work_81 rfl ?_
          refine w_getp dX12_work_82 lk_RX12_88 e1 rfl ?_
          refine w_iload_n dX12_work_85 rfl ?_
          refine w_iload_n dX12_work_86 rfl ?_
          obtain ⟨n9, ln9, w⟩ := w
          obtain ⟨e3, w⟩ := w
          refine w_iast dX12_work_87 ln9 e3 ?_
          have w := w _ rfl
          refine w_iload_n dX12_work_88 rfl ?_
          refine w_if_ne (tgt := 105) dX12_work_89 rfl (fun c => ?_) (fun c => ?_)
          · rw [if_neg c] at w
            refine w_aload_n dX12_work_105 rfl ?_
            refine w_iconst (v := 0) dX12_work_106 rfl ?_
            refine w_aload_n dX12_work_107 rfl ?_
            refine w_callV (As := []) (st := [.int 0, .ref l0]) dX12_work_108 mt_X12_heaps g_1679 g_1681 g_98 rfl e1 rfl rfl (Nat.le_of_ble_eq_true rfl) (Nat.le_refl _) ⟨Nat.le_refl _, Nat.le_refl _⟩ w ?_
            rintro v h16 ⟨r15, rfl, w⟩
            refine w_iconst (v := (-1)) dX12_work_111 rfl ?_
            obtain ⟨e1, w⟩ := w
            refine w_callV (As := [.int 0, .int r15, .int (-1)]) (st := []) dX12_work_112 mt_X12_takeTold g_1631 g_1633 g_87 rfl e1 rfl rfl (Nat.le_of_ble_eq_true rfl) (Nat.le_refl _) ⟨Nat.le_refl _, Nat.le_refl _⟩ w ?_
            rintro v h18 ⟨r17, rfl, w⟩
            exact w
          · rw [if_pos c] at w
            refine w_aload_n dX12_work_92 rfl ?_
            refine w_iconst (v := 5) dX12_work_93 rfl ?_
            refine w_aload_n dX12_work_94 rfl ?_
            refine w_callV (As := []) (st := [.int 5, .ref l0]) dX12_work_95 mt_X12_items g_1363 g_1365 g_52 rfl e1 rfl rfl (Nat.le_of_ble_eq_true rfl) (Nat.le_refl _) ⟨Nat.le_refl _, Nat.le_refl _⟩ w ?_
            rintro v h12 ⟨r11, rfl, w⟩
            refine w_iconst (v := (-1)) dX12_work_98 rfl ?_
            obtain ⟨e1, w⟩ := w
            refine w_callV (As := [.int 5, .int r11, .int (-1)]) (st := []) dX12_work_99 mt_X12_takeTold g_1631 g_1633 g_87 rfl e1 rfl rfl (Nat.le_of_ble_eq_true rfl) (Nat.le_refl _) ⟨Nat.le_refl _, Nat.le_refl _⟩ w ?_
            rintro v h14 ⟨r13, rfl, w⟩
            refine w_goto (tgt := 115) dX12_work_102 rfl ?_
            exact w
        · rw [if_pos c] at w
          refine w_aload_n dX12_work_56 rfl ?_
          refine w_iconst (v := 5) dX12_work_57 rfl ?_
          obtain ⟨e1, w⟩ := w
          refine w_callV (As := [.int 5]) (st := []) dX12_work_58 mt_X12_wrong g_1595 g_1597 g_78 rfl e1 rfl rfl (Nat.le_of_ble_eq_true rfl) (Nat.le_refl _) ⟨Nat.le_refl _, Nat.le_refl _⟩ w ?_
          rintro v h5 ⟨rfl, w⟩
          refine w_goto (tgt := 195) dX12_work_61 rfl ?_
          refine w_aload_n dX12_work_195 rfl ?_
          refine w_bipush (v := 59) dX12_work_196 rfl ?_
          obtain ⟨e1, w⟩ := w
          refine w_callV (As := [.int 59]) (st := []) dX12_work_198 mt_X12_takeSign g_1671 g_1673 g_97 rfl e1 rfl rfl (Nat.le_of_ble_eq_true rfl) (Nat.le_refl _) ⟨Nat.le_refl _, Nat.le_refl _⟩ w ?_
          rintro v h7 ⟨rfl, w⟩
          refine w_goto (tgt := 11) dX12_work_201 rfl ?_
          exact w_drop (l' := [.ref l0, .int l1, .null, .null, .null]) ⟨Or.inr rfl, Or.inr rfl, Or.inl rfl, Or.inl rfl, Or.inl rfl, trivial⟩ w
      · rw [if_neg c] at w
        refine w_aload_n dX12_work_42 rfl ?_
        refine w_iconst (v := 1) dX12_work_43 rfl ?_
        obtain ⟨e1, w⟩ := w
        refine w_callV (As := [.int 1]) (st := []) dX12_work_44 mt_X12_wrong g_1595 g_1597 g_78 rfl e1 rfl rfl (Nat.le_of_ble_eq_true rfl) (Nat.le_refl _) ⟨Nat.le_refl _, Nat.le_refl _⟩ w ?_
        rintro v h20 ⟨rfl, w⟩
        refine w_goto (tgt := 195) dX12_work_47 rfl ?_
        refine w_aload_n dX12_work_195 rfl ?_
        refine w_bipush (v := 59) dX12_work_196 rfl ?_
        obtain ⟨e1, w⟩ := w
        refine w_callV (As := [.int 59]) (st := []) dX12_work_198 mt_X12_takeSign g_1671 g_1673 g_97 rfl e1 rfl rfl (Nat.le_of_ble_eq_true rfl) (Nat.le_refl _) ⟨Nat.le_refl _, Nat.le_refl _⟩ w ?_
        rintro v h22 ⟨rfl, w⟩
        refine w_goto (tgt := 11) dX12_work_201 rfl ?_
        exact w_drop (l' := [.ref l0, .int l1, .null, .null, .null]) ⟨Or.inr rfl, Or.inr rfl, Or.inl rfl, Or.inl rfl, Or.inl rfl, trivial⟩ w
set_option maxRecDepth 20000 in
set_option maxHeartbeats 4000000 in
theorem x_X12_work_115 {G : pm_G} {d : Nat} {post : pm_PT} {h : pm_H} {l0 : Nat} {l1 : Int32} {l2 : Int32} {l3 : Int32} {s0 : Int32} (w :
    (h.1[l0]? = some (0, 11)) ∧
    ∃ n1 : Nat, h.1[gp h l0 14]? = some (1, n1) ∧
    (vp_in (l3 + 1) n1) ∧
    ∀ h2 : pm_H, h2 = si h (gp h l0 14) (l3 + 1 : Int32).toNatClampNeg s0 →
    if l2 = 0 then (
      ci G d m_X12_heaps [.ref l0] h2 fun r3 h4 =>
      (h4.1[l0]? = some (0, 11)) ∧
      ci G d m_X12_takeTold [.ref l0, .int 0, .int r3, .int (-1)] h4 fun r5 h6 =>
      ∃ n7 : Nat, h6.1[gp h2 l0 14]? = some (1, n7) ∧
      (vp_in (l3 + 2) n7) ∧
      ∀ h8 : pm_H, h8 = si h6 (gp h2 l0 14) (l3 + 2 : Int32).toNatClampNeg r5 →
      (h6.1[l0]? = some (0, 11)) ∧
      cv G d m_X12_takeSign [.ref l0, .int 59] h8 fun h10 =>
      Wp G (m_X12_work, d + 1, 0, 0, post) (0, 0) 11 [.ref l0, .int (l1 + 1), .null, .null, .null] [] h10
    ) else (
      if l2 = 2 then (
        ci G d m_X12_heaps [.ref l0] h2 fun r11 h12 =>
        (h12.1[l0]? = some (0, 11)) ∧
        ci G d m_X12_takeTold [.ref l0, .int 0, .int r11, .int s0] h12 fun r13 h14 =>
        ∃ n15 : Nat, h14.1[gp h2 l0 14]? = some (1, n15) ∧
        (vp_in (l3 + 2) n15) ∧
        ∀ h16 : pm_H, h16 = si h14 (gp h2 l0 14) (l3 + 2 : Int32).toNatClampNeg r13 →
        (h14.1[l0]? = some (0, 11)) ∧
        cv G d m_X12_takeSign [.ref l0, .int 59] h16 fun h18 =>
        Wp G (m_X12_work, d + 1, 0, 0, post) (0, 0) 11 [.ref l0, .int (l1 + 1), .null, .null, .null] [] h18
      ) else (
        if l2 = 3 then (
          ∃ n19 : Nat, h.1[gp h2 l0 10]? = some (1, n19) ∧
          (vp_in 1 n19) ∧
          ci G d m_X12_takeTold [.ref l0, .int 3, .int (gi h2 (gp h2 l0 10) (1 : Int32).toNatClampNeg), .int (-1)] h2 fun r20 h21 =>
          ∃ n22 : Nat, h21.1[gp h2 l0 14]? = some (1, n22) ∧
          (vp_in (l3 + 2) n22) ∧
          ∀ h23 : pm_H, h23 = si h21 (gp h2 l0 14) (l3 + 2 : Int32).toNatClampNeg r20 →
          (h21.1[l0]? = some (0, 11)) ∧
          cv G d m_X12_takeSign [.ref l0, .int 59] h23 fun h25 =>
          Wp G (m_X12_work, d + 1, 0, 0, post) (0, 0) 11 [.ref l0, .int (l1 + 1), .null, .null, .null] [] h25
        ) else (
          ∃ n26 : Nat, h.1[gp h2 l0 14]? = some (1, n26) ∧
          (vp_in (l3 + 2) n26) ∧
          ∀ h27 : pm_H, h27 = si h2 (gp h2 l0 14) (l3 + 2 : Int32).toNatClampNeg 0 →
          cv G d m_X12_takeSign [.ref l0, .int 59] h27 fun h29 =>
          Wp G (m_X12_work, d + 1, 0, 0, post) (0, 0) 11 [.ref l0, .int (l1 + 1), .null, .null, .null] [] h29
        )
      )
    )) :
    Wp G (m_X12_work, d + 1, 0, 0, post) (0, 0) 115 [.ref l0, .int l1, .int l2, .int l3, .null] [.int s0] h := by
  refine v_istore (l' := [.ref l0, .int l1, .int l2, .int l3, .int s0]) dX12_work_115 (Nat.le_of_ble_eq_true rfl) rfl ?_
  refine w_aload_n dX12_work_117 rfl ?_
  obtain ⟨e1, w⟩ := w
  refine w_getp dX12_work_118 lk_RX12_88 e1 rfl ?_
  refine w_iload_n dX12_work_121 rfl ?_
  refine w_iconst (v := 1) dX12_work_122 rfl ?_
  refine w_iadd dX12_work_123 ?_
  refine w_iload dX12_work_124 rfl ?_
  obtain ⟨n1, ln1, w⟩ := w
  obtain ⟨e3, w⟩ := w
  refine w_iast dX12_work_126 ln1 e3 ?_
  have w := w _ rfl
  refine w_aload_n dX12_work_127 rfl ?_
  refine w_getp dX12_work_128 lk_RX12_88 e1 rfl ?_
  refine w_iload_n dX12_work_131 rfl ?_
  refine w_iconst (v := 2) dX12_work_132 rfl ?_
  refine w_iadd dX12_work_133 ?_
  refine w_iload_n dX12_work_134 rfl ?_
  refine w_if_ne (tgt := 151) dX12_work_135 rfl (fun c => ?_) (fun c => ?_)
  · rw [if_neg c] at w
    refine w_iload_n dX12_work_151 rfl ?_
    refine w_iconst (v := 2) dX12_work_152 rfl ?_
    refine w_ic_ne (tgt := 170) dX12_work_153 rfl (fun c => ?_) (fun c => ?_)
    · rw [if_neg c] at w
      refine w_iload_n dX12_work_170 rfl ?_
      refine w_iconst (v := 3) dX12_work_171 rfl ?_
      refine w_ic_ne (tgt := 190) dX12_work_172 rfl (fun c => ?_) (fun c => ?_)
      · rw [if_neg c] at w
        refine w_iconst (v := 0) dX12_work_190 rfl ?_
        obtain ⟨n26, ln26, w⟩ := w
        obtain ⟨e5, w⟩ := w
        refine w_iast dX12_work_191 ln26 e5 ?_
        have w := w _ rfl
        refine v_iinc (l' := [.ref l0, .int (l1 + 1), .int l2, .int l3, .int s0]) (v := l1 + 1) dX12_work_192 rfl rfl (Nat.le_of_ble_eq_true rfl) rfl ?_
        refine w_aload_n dX12_work_195 rfl ?_
        refine w_bipush (v := 59) dX12_work_196 rfl ?_
        refine w_callV (As := [.int 59]) (st := []) dX12_work_198 mt_X12_takeSign g_1671 g_1673 g_97 rfl e1 rfl rfl (Nat.le_of_ble_eq_true rfl) (Nat.le_refl _) ⟨Nat.le_refl _, Nat.le_refl _⟩ w ?_
        rintro v h29 ⟨rfl, w⟩
        refine w_goto (tgt := 11) dX12_work_201 rfl ?_
        exact w_drop (l' := [.ref l0, .int (l1 + 1), .null, .null, .null]) ⟨Or.inr rfl, Or.inr rfl, Or.inl rfl, Or.inl rfl, Or.inl rfl, trivial⟩ w
      · rw [if_pos c] at w
        refine w_aload_n dX12_work_175 rfl ?_
        refine w_iconst (v := 3) dX12_work_176 rfl ?_
        refine w_aload_n dX12_work_177 rfl ?_
        refine w_getp dX12_work_178 lk_RX12_79 e1 rfl ?_
        refine w_iconst (v := 1) dX12_work_181 rfl ?_
        obtain ⟨n19, ln19, w⟩ := w
        obtain ⟨e5, w⟩ := w
        refine w_iald dX12_work_182 ln19 e5 ?_
        refine w_iconst (v := (-1)) dX12_work_183 rfl ?_
        refine w_callV (As := [.int 3, .int (gi (si h (gp h l0 14) (l3 + 1 : Int32).toNatClampNeg s0) (gp (si h (gp h l0 14) (l3 + 1 : Int32).toNatClampNeg s0) l0 10) (1 : Int32).toNatClampNeg), .int (-1)]) (st := [.int (l3 + 2), .ref (gp (si h (gp h l0 14) (l3 + 1 : Int32).toNatClampNeg s0) l0 14)]) dX12_work_184 mt_X12_takeTold g_1631 g_1633 g_87 rfl e1 rfl rfl (Nat.le_of_ble_eq_true rfl) (Nat.le_refl _) ⟨Nat.le_refl _, Nat.le_refl _⟩ w ?_
        rintro v h21 ⟨r20, rfl, w⟩
        refine w_goto (tgt := 191) dX12_work_187 rfl ?_
        obtain ⟨n22, ln22, w⟩ := w
        obtain ⟨e2, w⟩ := w
        refine w_iast dX12_work_191 ln22 e2 ?_
        have w := w _ rfl
        refine v_iinc (l' := [.ref l0, .int (l1 + 1), .int l2, .int l3, .int s0]) (v := l1 + 1) dX12_work_192 rfl rfl (Nat.le_of_ble_eq_true rfl) rfl ?_
        refine w_aload_n dX12_work_195 rfl ?_
        refine w_bipush (v := 59) dX12_work_196 rfl ?_
        obtain ⟨e3, w⟩ := w
        refine w_callV (As := [.int 59]) (st := []) dX12_work_198 mt_X12_takeSign g_1671 g_1673 g_97 rfl e3 rfl rfl (Nat.le_of_ble_eq_true rfl) (Nat.le_refl _) ⟨Nat.le_refl _, Nat.le_refl _⟩ w ?_
        rintro v h25 ⟨rfl, w⟩
        refine w_goto (tgt := 11) dX12_work_201 rfl ?_
        exact w_drop (l' := [.ref l0, .int (l1 + 1), .null, .null, .null]) ⟨Or.inr rfl, Or.inr rfl, Or.inl rfl, Or.inl rfl, Or.inl rfl, trivial⟩ w
    · rw [if_pos c] at w
      refine w_aload_n dX12_work_156 rfl ?_
      refine w_iconst (v := 0) dX12_work_157 rfl ?_
      refine w_aload_n dX12_work_158 rfl ?_
      refine w_callV (As := []) (st := [.int 0, .ref l0, .int (l3 + 2), .ref (gp (si h (gp h l0 14) (l3 + 1 : Int32).toNatClampNeg s0) l0 14)]) dX12_work_159 mt_X12_heaps g_1679 g_1681 g_98 rfl e1 rfl rfl (Nat.le_of_ble_eq_true rfl) (Nat.le_refl _) ⟨Nat.le_refl _, Nat.le_refl _⟩ w ?_
      rintro v h12 ⟨r11, rfl, w⟩
      refine w_iload dX12_work_162 rfl ?_
      obtain ⟨e1, w⟩ := w
      refine w_callV (As := [.int 0, .int r11, .int s0]) (st := [.int (l3 + 2), .ref (gp (si h (gp h l0 14) (l3 + 1 : Int32).toNatClampNeg s0) l0 14)]) dX12_work_164 mt_X12_takeTold g_1631 g_1633 g_87 rfl e1 rfl rfl (Nat.le_of_ble_eq_true rfl) (Nat.le_refl _) ⟨Nat.le_refl _, Nat.le_refl _⟩ w ?_
      rintro v h14 ⟨r13, rfl, w⟩
      refine w_goto (tgt := 191) dX12_work_167 rfl ?_
      obtain ⟨n15, ln15, w⟩ := w
      obtain ⟨e2, w⟩ := w
      refine w_iast dX12_work_191 ln15 e2 ?_
      have w := w _ rfl
      refine v_iinc (l' := [.ref l0, .int (l1 + 1), .int l2, .int l3, .int s0]) (v := l1 + 1) dX12_work_192 rfl rfl (Nat.le_of_ble_eq_true rfl) rfl ?_
      refine w_aload_n dX12_work_195 rfl ?_
      refine w_bipush (v := 59) dX12_work_196 rfl ?_
      obtain ⟨e3, w⟩ := w
      refine w_callV (As := [.int 59]) (st := []) dX12_work_198 mt_X12_takeSign g_1671 g_1673 g_97 rfl e3 rfl rfl (Nat.le_of_ble_eq_true rfl) (Nat.le_refl _) ⟨Nat.le_refl _, Nat.le_refl _⟩ w ?_
      rintro v h18 ⟨rfl, w⟩
      refine w_goto (tgt := 11) dX12_work_201 rfl ?_
      exact w_drop (l' := [.ref l0, .int (l1 + 1), .null, .null, .null]) ⟨Or.inr rfl, Or.inr rfl, Or.inl rfl, Or.inl rfl, Or.inl rfl, trivial⟩ w
  · rw [if_pos c] at w
    refine w_aload_n dX12_work_138 rfl ?_
    refine w_iconst (v := 0) dX12_work_139 rfl ?_
    refine w_aload_n dX12_work_140 rfl ?_
    refine w_callV (As := []) (st := [.int 0, .ref l0, .int (l3 + 2), .ref (gp (si h (gp h l0 14) (l3 + 1 : Int32).toNatClampNeg s0) l0 14)]) dX12_work_141 mt_X12_heaps g_1679 g_1681 g_98 rfl e1 rfl rfl (Nat.le_of_ble_eq_true rfl) (Nat.le_refl _) ⟨Nat.le_refl _, Nat.le_refl _⟩ w ?_
    rintro v h4 ⟨r3, rfl, w⟩
    refine w_iconst (v := (-1)) dX12_work_144 rfl ?_
    obtain ⟨e1, w⟩ := w
    refine w_callV (As := [.int 0, .int r3, .int (-1)]) (st := [.int (l3 + 2), .ref (gp (si h (gp h l0 14) (l3 + 1 : Int32).toNatClampNeg s0) l0 14)]) dX12_work_145 mt_X12_takeTold g_1631 g_1633 g_87 rfl e1 rfl rfl (Nat.le_of_ble_eq_true rfl) (Nat.le_refl _) ⟨Nat.le_refl _, Nat.le_refl _⟩ w ?_
    rintro v h6 ⟨r5, rfl, w⟩
    refine w_goto (tgt := 191) dX12_work_148 rfl ?_
    obtain ⟨n7, ln7, w⟩ := w
    obtain ⟨e2, w⟩ := w
    refine w_iast dX12_work_191 ln7 e2 ?_
    have w := w _ rfl
    refine v_iinc (l' := [.ref l0, .int (l1 + 1), .int l2, .int l3, .int s0]) (v := l1 + 1) dX12_work_192 rfl rfl (Nat.le_of_ble_eq_true rfl) rfl ?_
    refine w_aload_n dX12_work_195 rfl ?_
    refine w_bipush (v := 59) dX12_work_196 rfl ?_
    obtain ⟨e3, w⟩ := w
    refine w_callV (As := [.int 59]) (st := []) dX12_work_198 mt_X12_takeSign g_1671 g_1673 g_97 rfl e3 rfl rfl (Nat.le_of_ble_eq_true rfl) (Nat.le_refl _) ⟨Nat.le_refl _, Nat.le_refl _⟩ w ?_
    rintro v h10 ⟨rfl, w⟩
    refine w_goto (tgt := 11) dX12_work_201 rfl ?_
    exact w_drop (l' := [.ref l0, .int (l1 + 1), .null, .null, .null]) ⟨Or.inr rfl, Or.inr rfl, Or.inl rfl, Or.inl rfl, Or.inl rfl, trivial⟩ w
set_option maxRecDepth 20000 in
set_option maxHeartbeats 4000000 in
theorem x_X12_work_204 {G : pm_G} {d : Nat} {post : pm_PT} {h : pm_H} {l0 : Nat} {l1 : Int32} (w :
    (h.1[l0]? = some (0, 11)) ∧
    if (gi h l0 8) ≤ 0 then (
      ∃ n1 : Nat, h.1[gp h l0 14]? = some (1, n1) ∧
      (vp_in 0 n1) ∧
      ∀ h2 : pm_H, h2 = si h (gp h l0 14) (0 : Int32).toNatClampNeg l1 →
      Wp G (m_X12_work, d + 1, 0, 0, post) (0, 0) 225 [.ref l0, .int l1, .int 0, .null, .null] [] h2
    ) else (
      post (some (.int (gi h l0 8))) h
    )) :
    Wp G (m_X12_work, d + 1, 0, 0, post) (0, 0) 204 [.ref l0, .int l1, .null, .null, .null] [] h := by
  refine w_aload_n dX12_work_204 rfl ?_
  obtain ⟨e1, w⟩ := w
  refine w_geti dX12_work_205 lk_RX12_146 e1 rfl ?_
  refine w_if_le (tgt := 216) dX12_work_208 rfl (fun c => ?_) (fun c => ?_)
  · rw [if_pos c] at w
    refine w_aload_n dX12_work_216 rfl ?_
    refine w_getp dX12_work_217 lk_RX12_88 e1 rfl ?_
    refine w_iconst (v := 0) dX12_work_220 rfl ?_
    refine w_iload_n dX12_work_221 rfl ?_
    obtain ⟨n1, ln1, w⟩ := w
    obtain ⟨e3, w⟩ := w
    refine w_iast dX12_work_222 ln1 e3 ?_
    have w := w _ rfl
    refine w_iconst (v := 0) dX12_work_223 rfl ?_
    refine v_istore_n (l' := [.ref l0, .int l1, .int 0, .null, .null]) dX12_work_224 (Nat.le_of_ble_eq_true rfl) rfl ?_
    exact w
  · rw [if_neg c] at w
    refine w_aload_n dX12_work_211 rfl ?_
    refine w_geti dX12_work_212 lk_RX12_146 e1 rfl ?_
    exact w_ireturn dX12_work_215 rfl rfl ⟨Nat.le_refl _, Nat.le_refl _⟩ w
set_option maxRecDepth 20000 in
set_option maxHeartbeats 4000000 in
theorem x_X12_work_225 {G : pm_G} {d : Nat} {post : pm_PT} {h : pm_H} {l0 : Nat} {l1 : Int32} {l2 : Int32} (w :
    if (3 * l1) ≤ l2 then (
      post (some (.int 0)) h
    ) else (
      (h.1[l0]? = some (0, 11)) ∧
      ∃ n1 : Nat, h.1[gp h l0 14]? = some (1, n1) ∧
      (vp_in (95 + l2) n1) ∧
      (vp_in (1 + l2) n1) ∧
      ∀ h2 : pm_H, h2 = si h (gp h l0 14) (1 + l2 : Int32).toNatClampNeg (gi h (gp h l0 14) (95 + l2 : Int32).toNatClampNeg) →
      Wp G (m_X12_work, d + 1, 0, 0, post) (0, 0) 225 [.ref l0, .int l1, .int (l2 + 1), .null, .null] [] h2
    )) :
    Wp G (m_X12_work, d + 1, 0, 0, post) (0, 0) 225 [.ref l0, .int l1, .int l2, .null, .null] [] h := by
  refine w_iload_n dX12_work_225 rfl ?_
  refine w_iconst (v := 3) dX12_work_226 rfl ?_
  refine w_iload_n dX12_work_227 rfl ?_
  refine w_imul dX12_work_228 ?_
  refine w_ic_ge (tgt := 255) dX12_work_229 rfl (fun c => ?_) (fun c => ?_)
  · rw [if_pos c] at w
    refine w_iconst (v := 0) dX12_work_255 rfl ?_
    exact w_ireturn dX12_work_256 rfl rfl ⟨Nat.le_refl _, Nat.le_refl _⟩ w
  · rw [if_neg c] at w
    refine w_aload_n dX12_work_232 rfl ?_
    obtain ⟨e1, w⟩ := w
    refine w_getp dX12_work_233 lk_RX12_88 e1 rfl ?_
    refine w_iconst (v := 1) dX12_work_236 rfl ?_
    refine w_iload_n dX12_work_237 rfl ?_
    refine w_iadd dX12_work_238 ?_
    refine w_aload_n dX12_work_239 rfl ?_
    refine w_getp dX12_work_240 lk_RX12_88 e1 rfl ?_
    refine w_bipush (v := 95) dX12_work_243 rfl ?_
    refine w_iload_n dX12_work_245 rfl ?_
    refine w_iadd dX12_work_246 ?_
    obtain ⟨n1, ln1, w⟩ := w
    obtain ⟨e3, w⟩ := w
    refine w_iald dX12_work_247 ln1 e3 ?_
    obtain ⟨e4, w⟩ := w
    refine w_iast dX12_work_248 ln1 e4 ?_
    have w := w _ rfl
    refine v_iinc (l' := [.ref l0, .int l1, .int (l2 + 1), .null, .null]) (v := l2 + 1) dX12_work_249 rfl rfl (Nat.le_of_ble_eq_true rfl) rfl ?_
    refine w_goto (tgt := 225) dX12_work_252 rfl ?_
    exact w
set_option maxRecDepth 20000 in
set_option maxHeartbeats 4000000 in
theorem x_X12_emit {G : pm_G} {d : Nat} {post : pm_PT} {h : pm_H} {l0 : Nat} {l1 : Int32} {l2 : Int32} (w :
    (h.1[l0]? = some (0, 11)) ∧
    ∃ n1 : Nat, h.1[gp h l0 11]? = some (1, n1) ∧
    (vp_in (1100 + (gi h l0 12)) n1) ∧
    ∀ h2 : pm_H, h2 = si h (gp h l0 11) (1100 + (gi h l0 12) : Int32).toNatClampNeg (l1 + (16 * l2)) →
    ∀ h3 : pm_H, h3 = si h2 l0 12 ((gi h2 l0 12) + 1) →
    post none h3) :
    Wp G (m_X12_emit, d + 1, 0, 0, post) (0, 0) 0 [.ref l0, .int l1, .int l2] [] h := by
  refine w_aload_n dX12_emit_0 rfl ?_
  obtain ⟨e1, w⟩ := w
  refine w_getp dX12_emit_1 lk_RX12_82 e1 rfl ?_
  refine w_sipush (v := 1100) dX12_emit_4 rfl ?_
  refine w_aload_n dX12_emit_7 rfl ?_
  refine w_geti dX12_emit_8 lk_RX12_175 e1 rfl ?_
  refine w_iadd dX12_emit_11 ?_
  refine w_iload_n dX12_emit_12 rfl ?_
  refine w_bipush (v := 16) dX12_emit_13 rfl ?_
  refine w_iload_n dX12_emit_15 rfl ?_
  refine w_imul dX12_emit_16 ?_
  refine w_iadd dX12_emit_17 ?_
  obtain ⟨n1, ln1, w⟩ := w
  obtain ⟨e3, w⟩ := w
  refine w_iast dX12_emit_18 ln1 e3 ?_
  have w := w _ rfl
  refine w_aload_n dX12_emit_19 rfl ?_
  refine w_dup dX12_emit_20 rfl ?_
  refine w_geti dX12_emit_21 lk_RX12_175 e1 rfl ?_
  refine w_iconst (v := 1) dX12_emit_24 rfl ?_
  refine w_iadd dX12_emit_25 ?_
  refine w_puti dX12_emit_26 lk_RX12_175 e1 rfl (Or.inl rfl) ?_
  have w := w _ rfl
  exact w_return dX12_emit_29 rfl ⟨Nat.le_refl _, Nat.le_refl _⟩ w
set_option maxRecDepth 20000 in
set_option maxHeartbeats 4000000 in
theorem x_X12_allOf {G : pm_G} {d : Nat} {post : pm_PT} {h : pm_H} {l0 : Nat} {l1 : Int32} (w :
    (h.1[l0]? = some (0, 11)) ∧
    cv G d m_X12_test [.ref l0, .int l1] h fun h2 =>
    Wp G (m_X12_allOf, d + 1, 0, 0, post) (0, 0) 5 [.ref l0, .int l1, .null] [] h2) :
    Wp G (m_X12_allOf, d + 1, 0, 0, post) (0, 0) 0 [.ref l0, .int l1, .null] [] h := by
  refine w_aload_n dX12_allOf_0 rfl ?_
  refine w_iload_n dX12_allOf_1 rfl ?_
  obtain ⟨e1, w⟩ := w
  refine w_callV (As := [.int l1]) (st := []) dX12_allOf_2 mt_X12_test g_1643 g_1645 g_90 rfl e1 rfl rfl (Nat.le_of_ble_eq_true rfl) (Nat.le_refl _) ⟨Nat.le_refl _, Nat.le_refl _⟩ w ?_
  rintro v h2 ⟨rfl, w⟩
  exact w
set_option maxRecDepth 20000 in
set_option maxHeartbeats 4000000 in
theorem x_X12_allOf_5 {G : pm_G} {d : Nat} {post : pm_PT} {h : pm_H} {l0 : Nat} {l1 : Int32} (w :
    (h.1[l0]? = some (0, 11)) ∧
    ci G d m_X12_isWord [.ref l0, .int 16] h fun r1 h2 =>
    if r1 = 0 then (
      (h2.1[l0]? = some (0, 11)) ∧
      ci G d m_X12_isWord [.ref l0, .int 17] h2 fun r3 h4 =>
      if r3 = 0 then (
        post none h4
      ) else (
        Wp G (m_X12_allOf, d + 1, 0, 0, post) (0, 0) 23 [.ref l0, .int l1, .null] [] h4
      )
    ) else (
      Wp G (m_X12_allOf, d + 1, 0, 0, post) (0, 0) 23 [.ref l0, .int l1, .null] [] h2
    )) :
    Wp G (m_X12_allOf, d + 1, 0, 0, post) (0, 0) 5 [.ref l0, .int l1, .null] [] h := by
  refine w_aload_n dX12_allOf_5 rfl ?_
  refine w_bipush (v := 16) dX12_allOf_6 rfl ?_
  obtain ⟨e1, w⟩ := w
  refine w_callV (As := [.int 16]) (st := []) dX12_allOf_8 mt_X12_isWord g_1583 g_1585 g_75 rfl e1 rfl rfl (Nat.le_of_ble_eq_true rfl) (Nat.le_refl _) ⟨Nat.le_refl _, Nat.le_refl _⟩ w ?_
  rintro v h2 ⟨r1, rfl, w⟩
  refine w_if_ne (tgt := 23) dX12_allOf_11 rfl (fun c => ?_) (fun c => ?_)
  · rw [if_neg c] at w
    exact w
  · rw [if_pos c] at w
    refine w_aload_n dX12_allOf_14 rfl ?_
    refine w_bipush (v := 17) dX12_allOf_15 rfl ?_
    obtain ⟨e1, w⟩ := w
    refine w_callV (As := [.int 17]) (st := []) dX12_allOf_17 mt_X12_isWord g_1583 g_1585 g_75 rfl e1 rfl rfl (Nat.le_of_ble_eq_true rfl) (Nat.le_refl _) ⟨Nat.le_refl _, Nat.le_refl _⟩ w ?_
    rintro v h4 ⟨r3, rfl, w⟩
    refine w_if_eq (tgt := 64) dX12_allOf_20 rfl (fun c => ?_) (fun c => ?_)
    · rw [if_pos c] at w
      exact w_return dX12_allOf_64 rfl ⟨Nat.le_refl _, Nat.le_refl _⟩ w
    · rw [if_neg c] at w
      exact w
set_option maxRecDepth 20000 in
set_option maxHeartbeats 4000000 in
theorem x_X12_allOf_23 {G : pm_G} {d : Nat} {post : pm_PT} {h : pm_H} {l0 : Nat} {l1 : Int32} (w :
    (h.1[l0]? = some (0, 11)) ∧
    ci G d m_X12_isWord [.ref l0, .int 16] h fun r1 h2 =>
    (h2.1[l0]? = some (0, 11)) ∧
    ∀ h3 : pm_H, h3 = si h2 l0 7 ((gi h2 l0 7) + 1) →
    cv G d m_X12_test [.ref l0, .int l1] h3 fun h5 =>
    if r1 = 0 then (
      (h5.1[l0]? = some (0, 11)) ∧
      cv G d m_X12_emit [.ref l0, .int 10, .int 0] h5 fun h7 =>
      Wp G (m_X12_allOf, d + 1, 0, 0, post) (0, 0) 5 [.ref l0, .int l1, .null] [] h7
    ) else (
      (h5.1[l0]? = some (0, 11)) ∧
      cv G d m_X12_emit [.ref l0, .int 9, .int 0] h5 fun h9 =>
      Wp G (m_X12_allOf, d + 1, 0, 0, post) (0, 0) 5 [.ref l0, .int l1, .null] [] h9
    )) :
    Wp G (m_X12_allOf, d + 1, 0, 0, post) (0, 0) 23 [.ref l0, .int l1, .null] [] h := by
  refine w_aload_n dX12_allOf_23 rfl ?_
  refine w_bipush (v := 16) dX12_allOf_24 rfl ?_
  obtain ⟨e1, w⟩ := w
  refine w_callV (As := [.int 16]) (st := []) dX12_allOf_26 mt_X12_isWord g_1583 g_1585 g_75 rfl e1 rfl rfl (Nat.le_of_ble_eq_true rfl) (Nat.le_refl _) ⟨Nat.le_refl _, Nat.le_refl _⟩ w ?_
  rintro v h2 ⟨r1, rfl, w⟩
  refine v_istore_n (l' := [.ref l0, .int l1, .int r1]) dX12_allOf_29 (Nat.le_of_ble_eq_true rfl) rfl ?_
  refine w_aload_n dX12_allOf_30 rfl ?_
  refine w_dup dX12_allOf_31 rfl ?_
  obtain ⟨e1, w⟩ := w
  refine w_geti dX12_allOf_32 lk_RX12_143 e1 rfl ?_
  refine w_iconst (v := 1) dX12_allOf_35 rfl ?_
  refine w_iadd dX12_allOf_36 ?_
  refine w_puti dX12_allOf_37 lk_RX12_143 e1 rfl (Or.inl rfl) ?_
  have w := w _ rfl
  refine w_aload_n dX12_allOf_40 rfl ?_
  refine w_iload_n dX12_allOf_41 rfl ?_
  refine w_callV (As := [.int l1]) (st := []) dX12_allOf_42 mt_X12_test g_1643 g_1645 g_90 rfl e1 rfl rfl (Nat.le_of_ble_eq_true rfl) (Nat.le_refl _) ⟨Nat.le_refl _, Nat.le_refl _⟩ w ?_
  rintro v h5 ⟨rfl, w⟩
  refine w_aload_n dX12_allOf_45 rfl ?_
  refine w_iload_n dX12_allOf_46 rfl ?_
  refine w_if_eq (tgt := 55) dX12_allOf_47 rfl (fun c => ?_) (fun c => ?_)
  · rw [if_pos c] at w
    refine w_bipush (v := 10) dX12_allOf_55 rfl ?_
    refine w_iconst (v := 0) dX12_allOf_57 rfl ?_
    obtain ⟨e1, w⟩ := w
    refine w_callV (As := [.int 10, .int 0]) (st := []) dX12_allOf_58 mt_X12_emit g_1663 g_1665 g_95 rfl e1 rfl rfl (Nat.le_of_ble_eq_true rfl) (Nat.le_refl _) ⟨Nat.le_refl _, Nat.le_refl _⟩ w ?_
    rintro v h7 ⟨rfl, w⟩
    refine w_goto (tgt := 5) dX12_allOf_61 rfl ?_
    exact w_drop (l' := [.ref l0, .int l1, .null]) ⟨Or.inr rfl, Or.inr rfl, Or.inl rfl, trivial⟩ w
  · rw [if_neg c] at w
    refine w_bipush (v := 9) dX12_allOf_50 rfl ?_
    refine w_goto (tgt := 57) dX12_allOf_52 rfl ?_
    refine w_iconst (v := 0) dX12_allOf_57 rfl ?_
    obtain ⟨e1, w⟩ := w
    refine w_callV (As := [.int 9, .int 0]) (st := []) dX12_allOf_58 mt_X12_emit g_1663 g_1665 g_95 rfl e1 rfl rfl (Nat.le_of_ble_eq_true rfl) (Nat.le_refl _) ⟨Nat.le_refl _, Nat.le_refl _⟩ w ?_
    rintro v h9 ⟨rfl, w⟩
    refine w_goto (tgt := 5) dX12_allOf_61 rfl ?_
    exact w_drop (l' := [.ref l0, .int l1, .null]) ⟨Or.inr rfl, Or.inr rfl, Or.inl rfl, trivial⟩ w
set_option maxRecDepth 20000 in
set_option maxHeartbeats 4000000 in
theorem x_X12_test {G : pm_G} {d : Nat} {post : pm_PT} {h : pm_H} {l0 : Nat} {l1 : Int32} (w :
    (h.1[l0]? = some (0, 11)) ∧
    cv G d m_X12_sums [.ref l0, .int l1] h fun h2 =>
    (h2.1[l0]? = some (0, 11)) ∧
    ci G d m_X12_isSign [.ref l0, .int 60] h2 fun r3 h4 =>
    (h4.1[l0]? = some (0, 11)) ∧
    ci G d m_X12_hasSign [.ref l0, .int 60] h4 fun r5 h6 =>
    if r5 = 0 then (
      (h6.1[l0]? = some (0, 11)) ∧
      ci G d m_X12_hasSign [.ref l0, .int 61] h6 fun r7 h8 =>
      if r7 = 0 then (
        post none h8
      ) else (
        (h8.1[l0]? = some (0, 11)) ∧
        cv G d m_X12_sums [.ref l0, .int l1] h8 fun h10 =>
        if r3 = 0 then (
          (h10.1[l0]? = some (0, 11)) ∧
          cv G d m_X12_emit [.ref l0, .int 8, .int 0] h10 fun h12 =>
          post none h12
        ) else (
          (h10.1[l0]? = some (0, 11)) ∧
          cv G d m_X12_emit [.ref l0, .int 7, .int 0] h10 fun h14 =>
          post none h14
        )
      )
    ) else (
      (h6.1[l0]? = some (0, 11)) ∧
      cv G d m_X12_sums [.ref l0, .int l1] h6 fun h16 =>
      if r3 = 0 then (
        (h16.1[l0]? = some (0, 11)) ∧
        cv G d m_X12_emit [.ref l0, .int 8, .int 0] h16 fun h18 =>
        post none h18
      ) else (
        (h16.1[l0]? = some (0, 11)) ∧
        cv G d m_X12_emit [.ref l0, .int 7, .int 0] h16 fun h20 =>
        post none h20
      )
    )) :
    Wp G (m_X12_test, d + 1, 0, 0, post) (0, 0) 0 [.ref l0, .int l1, .null] [] h := by
  refine w_aload_n dX12_test_0 rfl ?_
  refine w_iload_n dX12_test_1 rfl ?_
  obtain ⟨e1, w⟩ := w
  refine w_callV (As := [.int l1]) (st := []) dX12_test_2 mt_X12_sums g_1647 g_1649 g_91 rfl e1 rfl rfl (Nat.le_of_ble_eq_true rfl) (Nat.le_refl _) ⟨Nat.le_refl _, Nat.le_refl _⟩ w ?_
  rintro v h2 ⟨rfl, w⟩
  refine w_aload_n dX12_test_5 rfl ?_
  refine w_bipush (v := 60) dX12_test_6 rfl ?_
  obtain ⟨e1, w⟩ := w
  refine w_callV (As := [.int 60]) (st := []) dX12_test_8 mt_X12_isSign g_1659 g_1661 g_94 rfl e1 rfl rfl (Nat.le_of_ble_eq_true rfl) (Nat.le_refl _) ⟨Nat.le_refl _, Nat.le_refl _⟩ w ?_
  rintro v h4 ⟨r3, rfl, w⟩
  refine v_istore_n (l' := [.ref l0, .int l1, .int r3]) dX12_test_11 (Nat.le_of_ble_eq_true rfl) rfl ?_
  refine w_aload_n dX12_test_12 rfl ?_
  refine w_bipush (v := 60) dX12_test_13 rfl ?_
  obtain ⟨e1, w⟩ := w
  refine w_callV (As := [.int 60]) (st := []) dX12_test_15 mt_X12_hasSign g_1667 g_1669 g_96 rfl e1 rfl rfl (Nat.le_of_ble_eq_true rfl) (Nat.le_refl _) ⟨Nat.le_refl _, Nat.le_refl _⟩ w ?_
  rintro v h6 ⟨r5, rfl, w⟩
  refine w_if_ne (tgt := 30) dX12_test_18 rfl (fun c => ?_) (fun c => ?_)
  · rw [if_neg c] at w
    refine w_aload_n dX12_test_30 rfl ?_
    refine w_iload_n dX12_test_31 rfl ?_
    obtain ⟨e1, w⟩ := w
    refine w_callV (As := [.int l1]) (st := []) dX12_test_32 mt_X12_sums g_1647 g_1649 g_91 rfl e1 rfl rfl (Nat.le_of_ble_eq_true rfl) (Nat.le_refl _) ⟨Nat.le_refl _, Nat.le_refl _⟩ w ?_
    rintro v h16 ⟨rfl, w⟩
    refine w_aload_n dX12_test_35 rfl ?_
    refine w_iload_n dX12_test_36 rfl ?_
    refine w_if_eq (tgt := 45) dX12_test_37 rfl (fun c => ?_) (fun c => ?_)
    · rw [if_pos c] at w
      refine w_bipush (v := 8) dX12_test_45 rfl ?_
      refine w_iconst (v := 0) dX12_test_47 rfl ?_
      obtain ⟨e1, w⟩ := w
      refine w_callV (As := [.int 8, .int 0]) (st := []) dX12_test_48 mt_X12_emit g_1663 g_1665 g_95 rfl e1 rfl rfl (Nat.le_of_ble_eq_true rfl) (Nat.le_refl _) ⟨Nat.le_refl _, Nat.le_refl _⟩ w ?_
      rintro v h18 ⟨rfl, w⟩
      exact w_return dX12_test_51 rfl ⟨Nat.le_refl _, Nat.le_refl _⟩ w
    · rw [if_neg c] at w
      refine w_bipush (v := 7) dX12_test_40 rfl ?_
      refine w_goto (tgt := 47) dX12_test_42 rfl ?_
      refine w_iconst (v := 0) dX12_test_47 rfl ?_
      obtain ⟨e1, w⟩ := w
      refine w_callV (As := [.int 7, .int 0]) (st := []) dX12_test_48 mt_X12_emit g_1663 g_1665 g_95 rfl e1 rfl rfl (Nat.le_of_ble_eq_true rfl) (Nat.le_refl _) ⟨Nat.le_refl _, Nat.le_refl _⟩ w ?_
      rintro v h20 ⟨rfl, w⟩
      exact w_return dX12_test_51 rfl ⟨Nat.le_refl _, Nat.le_refl _⟩ w
  · rw [if_pos c] at w
    refine w_aload_n dX12_test_21 rfl ?_
    refine w_bipush (v := 61) dX12_test_22 rfl ?_
    obtain ⟨e1, w⟩ := w
    refine w_callV (As := [.int 61]) (st := []) dX12_test_24 mt_X12_hasSign g_1667 g_1669 g_96 rfl e1 rfl rfl (Nat.le_of_ble_eq_true rfl) (Nat.le_refl _) ⟨Nat.le_refl _, Nat.le_refl _⟩ w ?_
    rintro v h8 ⟨r7, rfl, w⟩
    refine w_if_eq (tgt := 51) dX12_test_27 rfl (fun c => ?_) (fun c => ?_)
    · rw [if_pos c] at w
      exact w_return dX12_test_51 rfl ⟨Nat.le_refl _, Nat.le_refl _⟩ w
    · rw [if_neg c] at w
      refine w_aload_n dX12_test_30 rfl ?_
      refine w_iload_n dX12_test_31 rfl ?_
      obtain ⟨e1, w⟩ := w
      refine w_callV (As := [.int l1]) (st := []) dX12_test_32 mt_X12_sums g_1647 g_1649 g_91 rfl e1 rfl rfl (Nat.le_of_ble_eq_true rfl) (Nat.le_refl _) ⟨Nat.le_refl _, Nat.le_refl _⟩ w ?_
      rintro v h10 ⟨rfl, w⟩
      refine w_aload_n dX12_test_35 rfl ?_
      refine w_iload_n dX12_test_36 rfl ?_
      refine w_if_eq (tgt := 45) dX12_test_37 rfl (fun c => ?_) (fun c => ?_)
      · rw [if_pos c] at w
        refine w_bipush (v := 8) dX12_test_45 rfl ?_
        refine w_iconst (v := 0) dX12_test_47 rfl ?_
        obtain ⟨e1, w⟩ := w
        refine w_callV (As := [.int 8, .int 0]) (st := []) dX12_test_48 mt_X12_emit g_1663 g_1665 g_95 rfl e1 rfl rfl (Nat.le_of_ble_eq_true rfl) (Nat.le_refl _) ⟨Nat.le_refl _, Nat.le_refl _⟩ w ?_
        rintro v h12 ⟨rfl, w⟩
        exact w_return dX12_test_51 rfl ⟨Nat.le_refl _, Nat.le_refl _⟩ w
      · rw [if_neg c] at w
        refine w_bipush (v := 7) dX12_test_40 rfl ?_
        refine w_goto (tgt := 47) dX12_test_42 rfl ?_
        refine w_iconst (v := 0) dX12_test_47 rfl ?_
        obtain ⟨e1, w⟩ := w
        refine w_callV (As := [.int 7, .int 0]) (st := []) dX12_test_48 mt_X12_emit g_1663 g_1665 g_95 rfl e1 rfl rfl (Nat.le_of_ble_eq_true rfl) (Nat.le_refl _) ⟨Nat.le_refl _, Nat.le_refl _⟩ w ?_
        rintro v h14 ⟨rfl, w⟩
        exact w_return dX12_test_51 rfl ⟨Nat.le_refl _, Nat.le_refl _⟩ w
set_option maxRecDepth 20000 in
set_option maxHeartbeats 4000000 in
theorem x_X12_sums {G : pm_G} {d : Nat} {post : pm_PT} {h : pm_H} {l0 : Nat} {l1 : Int32} (w :
    (h.1[l0]? = some (0, 11)) ∧
    cv G d m_X12_products [.ref l0, .int l1] h fun h2 =>
    Wp G (m_X12_sums, d + 1, 0, 0, post) (0, 0) 5 [.ref l0, .int l1, .null] [] h2) :
    Wp G (m_X12_sums, d + 1, 0, 0, post) (0, 0) 0 [.ref l0, .int l1, .null] [] h := by
  refine w_aload_n dX12_sums_0 rfl ?_
  refine w_iload_n dX12_sums_1 rfl ?_
  obtain ⟨e1, w⟩ := w
  refine w_callV (As := [.int l1]) (st := []) dX12_sums_2 mt_X12_products g_1651 g_1653 g_92 rfl e1 rfl rfl (Nat.le_of_ble_eq_true rfl) (Nat.le_refl _) ⟨Nat.le_refl _, Nat.le_refl _⟩ w ?_
  rintro v h2 ⟨rfl, w⟩
  exact w
set_option maxRecDepth 20000 in
set_option maxHeartbeats 4000000 in
theorem x_X12_sums_5 {G : pm_G} {d : Nat} {post : pm_PT} {h : pm_H} {l0 : Nat} {l1 : Int32} (w :
    (h.1[l0]? = some (0, 11)) ∧
    ci G d m_X12_isSign [.ref l0, .int 43] h fun r1 h2 =>
    if r1 = 0 then (
      (h2.1[l0]? = some (0, 11)) ∧
      ci G d m_X12_isSign [.ref l0, .int 45] h2 fun r3 h4 =>
      if r3 = 0 then (
        post none h4
      ) else (
        Wp G (m_X12_sums, d + 1, 0, 0, post) (0, 0) 23 [.ref l0, .int l1, .null] [] h4
      )
    ) else (
      Wp G (m_X12_sums, d + 1, 0, 0, post) (0, 0) 23 [.ref l0, .int l1, .null] [] h2
    )) :
    Wp G (m_X12_sums, d + 1, 0, 0, post) (0, 0) 5 [.ref l0, .int l1, .null] [] h := by
  refine w_aload_n dX12_sums_5 rfl ?_
  refine w_bipush (v := 43) dX12_sums_6 rfl ?_
  obtain ⟨e1, w⟩ := w
  refine w_callV (As := [.int 43]) (st := []) dX12_sums_8 mt_X12_isSign g_1659 g_1661 g_94 rfl e1 rfl rfl (Nat.le_of_ble_eq_true rfl) (Nat.le_refl _) ⟨Nat.le_refl _, Nat.le_refl _⟩ w ?_
  rintro v h2 ⟨r1, rfl, w⟩
  refine w_if_ne (tgt := 23) dX12_sums_11 rfl (fun c => ?_) (fun c => ?_)
  · rw [if_neg c] at w
    exact w
  · rw [if_pos c] at w
    refine w_aload_n dX12_sums_14 rfl ?_
    refine w_bipush (v := 45) dX12_sums_15 rfl ?_
    obtain ⟨e1, w⟩ := w
    refine w_callV (As := [.int 45]) (st := []) dX12_sums_17 mt_X12_isSign g_1659 g_1661 g_94 rfl e1 rfl rfl (Nat.le_of_ble_eq_true rfl) (Nat.le_refl _) ⟨Nat.le_refl _, Nat.le_refl _⟩ w ?_
    rintro v h4 ⟨r3, rfl, w⟩
    refine w_if_eq (tgt := 62) dX12_sums_20 rfl (fun c => ?_) (fun c => ?_)
    · rw [if_pos c] at w
      exact w_return dX12_sums_62 rfl ⟨Nat.le_refl _, Nat.le_refl _⟩ w
    · rw [if_neg c] at w
      exact w
set_option maxRecDepth 20000 in
set_option maxHeartbeats 4000000 in
theorem x_X12_sums_23 {G : pm_G} {d : Nat} {post : pm_PT} {h : pm_H} {l0 : Nat} {l1 : Int32} (w :
    (h.1[l0]? = some (0, 11)) ∧
    ci G d m_X12_isSign [.ref l0, .int 43] h fun r1 h2 =>
    (h2.1[l0]? = some (0, 11)) ∧
    ∀ h3 : pm_H, h3 = si h2 l0 7 ((gi h2 l0 7) + 1) →
    cv G d m_X12_products [.ref l0, .int l1] h3 fun h5 =>
    if r1 = 0 then (
      (h5.1[l0]? = some (0, 11)) ∧
      cv G d m_X12_emit [.ref l0, .int 5, .int 0] h5 fun h7 =>
      Wp G (m_X12_sums, d + 1, 0, 0, post) (0, 0) 5 [.ref l0, .int l1, .null] [] h7
    ) else (
      (h5.1[l0]? = some (0, 11)) ∧
      cv G d m_X12_emit [.ref l0, .int 4, .int 0] h5 fun h9 =>
      Wp G (m_X12_sums, d + 1, 0, 0, post) (0, 0) 5 [.ref l0, .int l1, .null] [] h9
    )) :
    Wp G (m_X12_sums, d + 1, 0, 0, post) (0, 0) 23 [.ref l0, .int l1, .null] [] h := by
  refine w_aload_n dX12_sums_23 rfl ?_
  refine w_bipush (v := 43) dX12_sums_24 rfl ?_
  obtain ⟨e1, w⟩ := w
  refine w_callV (As := [.int 43]) (st := []) dX12_sums_26 mt_X12_isSign g_1659 g_1661 g_94 rfl e1 rfl rfl (Nat.le_of_ble_eq_true rfl) (Nat.le_refl _) ⟨Nat.le_refl _, Nat.le_refl _⟩ w ?_
  rintro v h2 ⟨r1, rfl, w⟩
  refine v_istore_n (l' := [.ref l0, .int l1, .int r1]) dX12_sums_29 (Nat.le_of_ble_eq_true rfl) rfl ?_
  refine w_aload_n dX12_sums_30 rfl ?_
  refine w_dup dX12_sums_31 rfl ?_
  obtain ⟨e1, w⟩ := w
  refine w_geti dX12_sums_32 lk_RX12_143 e1 rfl ?_
  refine w_iconst (v := 1) dX12_sums_35 rfl ?_
  refine w_iadd dX12_sums_36 ?_
  refine w_puti dX12_sums_37 lk_RX12_143 e1 rfl (Or.inl rfl) ?_
  have w := w _ rfl
  refine w_aload_n dX12_sums_40 rfl ?_
  refine w_iload_n dX12_sums_41 rfl ?_
  refine w_callV (As := [.int l1]) (st := []) dX12_sums_42 mt_X12_products g_1651 g_1653 g_92 rfl e1 rfl rfl (Nat.le_of_ble_eq_true rfl) (Nat.le_refl _) ⟨Nat.le_refl _, Nat.le_refl _⟩ w ?_
  rintro v h5 ⟨rfl, w⟩
  refine w_aload_n dX12_sums_45 rfl ?_
  refine w_iload_n dX12_sums_46 rfl ?_
  refine w_if_eq (tgt := 54) dX12_sums_47 rfl (fun c => ?_) (fun c => ?_)
  · rw [if_pos c] at w
    refine w_iconst (v := 5) dX12_sums_54 rfl ?_
    refine w_iconst (v := 0) dX12_sums_55 rfl ?_
    obtain ⟨e1, w⟩ := w
    refine w_callV (As := [.int 5, .int 0]) (st := []) dX12_sums_56 mt_X12_emit g_1663 g_1665 g_95 rfl e1 rfl rfl (Nat.le_of_ble_eq_true rfl) (Nat.le_refl _) ⟨Nat.le_refl _, Nat.le_refl _⟩ w ?_
    rintro v h7 ⟨rfl, w⟩
    refine w_goto (tgt := 5) dX12_sums_59 rfl ?_
    exact w_drop (l' := [.ref l0, .int l1, .null]) ⟨Or.inr rfl, Or.inr rfl, Or.inl rfl, trivial⟩ w
  · rw [if_neg c] at w
    refine w_iconst (v := 4) dX12_sums_50 rfl ?_
    refine w_goto (tgt := 55) dX12_sums_51 rfl ?_
    refine w_iconst (v := 0) dX12_sums_55 rfl ?_
    obtain ⟨e1, w⟩ := w
    refine w_callV (As := [.int 4, .int 0]) (st := []) dX12_sums_56 mt_X12_emit g_1663 g_1665 g_95 rfl e1 rfl rfl (Nat.le_of_ble_eq_true rfl) (Nat.le_refl _) ⟨Nat.le_refl _, Nat.le_refl _⟩ w ?_
    rintro v h9 ⟨rfl, w⟩
    refine w_goto (tgt := 5) dX12_sums_59 rfl ?_
    exact w_drop (l' := [.ref l0, .int l1, .null]) ⟨Or.inr rfl, Or.inr rfl, Or.inl rfl, trivial⟩ w
set_option maxRecDepth 20000 in
set_option maxHeartbeats 4000000 in
theorem x_X12_products {G : pm_G} {d : Nat} {post : pm_PT} {h : pm_H} {l0 : Nat} {l1 : Int32} (w :
    (h.1[l0]? = some (0, 11)) ∧
    cv G d m_X12_takePart [.ref l0, .int l1] h fun h2 =>
    Wp G (m_X12_products, d + 1, 0, 0, post) (0, 0) 5 [.ref l0, .int l1] [] h2) :
    Wp G (m_X12_products, d + 1, 0, 0, post) (0, 0) 0 [.ref l0, .int l1] [] h := by
  refine w_aload_n dX12_products_0 rfl ?_
  refine w_iload_n dX12_products_1 rfl ?_
  obtain ⟨e1, w⟩ := w
  refine w_callV (As := [.int l1]) (st := []) dX12_products_2 mt_X12_takePart g_1655 g_1657 g_93 rfl e1 rfl rfl (Nat.le_of_ble_eq_true rfl) (Nat.le_refl _) ⟨Nat.le_refl _, Nat.le_refl _⟩ w ?_
  rintro v h2 ⟨rfl, w⟩
  exact w
set_option maxRecDepth 20000 in
set_option maxHeartbeats 4000000 in
theorem x_X12_products_5 {G : pm_G} {d : Nat} {post : pm_PT} {h : pm_H} {l0 : Nat} {l1 : Int32} (w :
    (h.1[l0]? = some (0, 11)) ∧
    ci G d m_X12_hasSign [.ref l0, .int 42] h fun r1 h2 =>
    if r1 = 0 then (
      post none h2
    ) else (
      (h2.1[l0]? = some (0, 11)) ∧
      cv G d m_X12_takePart [.ref l0, .int l1] h2 fun h4 =>
      (h4.1[l0]? = some (0, 11)) ∧
      cv G d m_X12_emit [.ref l0, .int 6, .int 0] h4 fun h6 =>
      Wp G (m_X12_products, d + 1, 0, 0, post) (0, 0) 5 [.ref l0, .int l1] [] h6
    )) :
    Wp G (m_X12_products, d + 1, 0, 0, post) (0, 0) 5 [.ref l0, .int l1] [] h := by
  refine w_aload_n dX12_products_5 rfl ?_
  refine w_bipush (v := 42) dX12_products_6 rfl ?_
  obtain ⟨e1, w⟩ := w
  refine w_callV (As := [.int 42]) (st := []) dX12_products_8 mt_X12_hasSign g_1667 g_1669 g_96 rfl e1 rfl rfl (Nat.le_of_ble_eq_true rfl) (Nat.le_refl _) ⟨Nat.le_refl _, Nat.le_refl _⟩ w ?_
  rintro v h2 ⟨r1, rfl, w⟩
  refine w_if_eq (tgt := 29) dX12_products_11 rfl (fun c => ?_) (fun c => ?_)
  · rw [if_pos c] at w
    exact w_return dX12_products_29 rfl ⟨Nat.le_refl _, Nat.le_refl _⟩ w
  · rw [if_neg c] at w
    refine w_aload_n dX12_products_14 rfl ?_
    refine w_iload_n dX12_products_15 rfl ?_
    obtain ⟨e1, w⟩ := w
    refine w_callV (As := [.int l1]) (st := []) dX12_products_16 mt_X12_takePart g_1655 g_1657 g_93 rfl e1 rfl rfl (Nat.le_of_ble_eq_true rfl) (Nat.le_refl _) ⟨Nat.le_refl _, Nat.le_refl _⟩ w ?_
    rintro v h4 ⟨rfl, w⟩
    refine w_aload_n dX12_products_19 rfl ?_
    refine w_bipush (v := 6) dX12_products_20 rfl ?_
    refine w_iconst (v := 0) dX12_products_22 rfl ?_
    obtain ⟨e1, w⟩ := w
    refine w_callV (As := [.int 6, .int 0]) (st := []) dX12_products_23 mt_X12_emit g_1663 g_1665 g_95 rfl e1 rfl rfl (Nat.le_of_ble_eq_true rfl) (Nat.le_refl _) ⟨Nat.le_refl _, Nat.le_refl _⟩ w ?_
    rintro v h6 ⟨rfl, w⟩
    refine w_goto (tgt := 5) dX12_products_26 rfl ?_
    exact w
set_option maxRecDepth 20000 in
set_option maxHeartbeats 4000000 in
theorem x_X12_takePart {G : pm_G} {d : Nat} {post : pm_PT} {h : pm_H} {l0 : Nat} {l1 : Int32} (w :
    (h.1[l0]? = some (0, 11)) ∧
    if (gi h l0 8) ≤ 0 then (
      ∃ n1 : Nat, h.1[gp h l0 4]? = some (1, n1) ∧
      (vp_in (gi h l0 7) n1) ∧
      if (gi h (gp h l0 4) (gi h l0 7 : Int32).toNatClampNeg) = 2 then (
        ci G d m_X12_wordHere [.ref l0, .int 18, .int 4] h fun r2 h3 =>
        if 0 ≤ r2 then (
          if l1 = 5 then (
            (h3.1[l0]? = some (0, 11)) ∧
            cv G d m_X12_wrong [.ref l0, .int 5] h3 fun h5 =>
            Wp G (m_X12_takePart, d + 1, 0, 0, post) (0, 0) 79 [.ref l0, .int l1, .int 1, .int r2] [] h5
          ) else (
            Wp G (m_X12_takePart, d + 1, 0, 0, post) (0, 0) 79 [.ref l0, .int l1, .int 1, .int r2] [] h3
          )
        ) else (
          if l1 = 5 then (
            (h3.1[l0]? = some (0, 11)) ∧
            cv G d m_X12_wrong [.ref l0, .int 5] h3 fun h7 =>
            Wp G (m_X12_takePart, d + 1, 0, 0, post) (0, 0) 79 [.ref l0, .int l1, .int 1, .int r2] [] h7
          ) else (
            Wp G (m_X12_takePart, d + 1, 0, 0, post) (0, 0) 79 [.ref l0, .int l1, .int 1, .int r2] [] h3
          )
        )
      ) else (
        ci G d m_X12_wordHere [.ref l0, .int 18, .int 4] h fun r8 h9 =>
        if 0 ≤ r8 then (
          if l1 = 5 then (
            (h9.1[l0]? = some (0, 11)) ∧
            cv G d m_X12_wrong [.ref l0, .int 5] h9 fun h11 =>
            Wp G (m_X12_takePart, d + 1, 0, 0, post) (0, 0) 79 [.ref l0, .int l1, .int 0, .int r8] [] h11
          ) else (
            Wp G (m_X12_takePart, d + 1, 0, 0, post) (0, 0) 79 [.ref l0, .int l1, .int 0, .int r8] [] h9
          )
        ) else (
          (h9.1[l0]? = some (0, 11)) ∧
          ci G d m_X12_isSign [.ref l0, .int 40] h9 fun r12 h13 =>
          if r12 = 0 then (
            (h13.1[l0]? = some (0, 11)) ∧
            ci G d m_X12_isWord [.ref l0, .int 15] h13 fun r14 h15 =>
            if r14 = 0 then (
              (h15.1[l0]? = some (0, 11)) ∧
              cv G d m_X12_wrong [.ref l0, .int 1] h15 fun h17 =>
              Wp G (m_X12_takePart, d + 1, 0, 0, post) (0, 0) 79 [.ref l0, .int l1, .int 0, .int r8] [] h17
            ) else (
              if l1 = 5 then (
                (h15.1[l0]? = some (0, 11)) ∧
                cv G d m_X12_wrong [.ref l0, .int 5] h15 fun h19 =>
                Wp G (m_X12_takePart, d + 1, 0, 0, post) (0, 0) 79 [.ref l0, .int l1, .int 0, .int r8] [] h19
              ) else (
                Wp G (m_X12_takePart, d + 1, 0, 0, post) (0, 0) 79 [.ref l0, .int l1, .int 0, .int r8] [] h15
              )
            )
          ) else (
            if l1 = 5 then (
              (h13.1[l0]? = some (0, 11)) ∧
              cv G d m_X12_wrong [.ref l0, .int 5] h13 fun h21 =>
              Wp G (m_X12_takePart, d + 1, 0, 0, post) (0, 0) 79 [.ref l0, .int l1, .int 0, .int r8] [] h21
            ) else (
              Wp G (m_X12_takePart, d + 1, 0, 0, post) (0, 0) 79 [.ref l0, .int l1, .int 0, .int r8] [] h13
            )
          )
        )
      )
    ) else (
      post none h
    )) :
    Wp G (m_X12_takePart, d + 1, 0, 0, post) (0, 0) 0 [.ref l0, .int l1, .null, .null] [] h := by
  refine w_aload_n dX12_takePart_0 rfl ?_
  obtain ⟨e1, w⟩ := w
  refine w_geti dX12_takePart_1 lk_RX12_146 e1 rfl ?_
  refine w_if_le (tgt := 8) dX12_takePart_4 rfl (fun c => ?_) (fun c => ?_)
  · rw [if_pos c] at w
    refine w_aload_n dX12_takePart_8 rfl ?_
    refine w_getp dX12_takePart_9 lk_RX12_24 e1 rfl ?_
    refine w_aload_n dX12_takePart_12 rfl ?_
    refine w_geti dX12_takePart_13 lk_RX12_143 e1 rfl ?_
    obtain ⟨n1, ln1, w⟩ := w
    obtain ⟨e3, w⟩ := w
    refine w_iald dX12_takePart_16 ln1 e3 ?_
    refine w_iconst (v := 2) dX12_takePart_17 rfl ?_
    refine w_ic_ne (tgt := 25) dX12_takePart_18 rfl (fun c => ?_) (fun c => ?_)
    · rw [if_neg c] at w
      refine w_iconst (v := 0) dX12_takePart_25 rfl ?_
      refine v_istore_n (l' := [.ref l0, .int l1, .int 0, .null]) dX12_takePart_26 (Nat.le_of_ble_eq_true rfl) rfl ?_
      refine w_aload_n dX12_takePart_27 rfl ?_
      refine w_bipush (v := 18) dX12_takePart_28 rfl ?_
      refine w_iconst (v := 4) dX12_takePart_30 rfl ?_
      refine w_callV (As := [.int 18, .int 4]) (st := []) dX12_takePart_31 mt_X12_wordHere g_1603 g_1605 g_80 rfl e1 rfl rfl (Nat.le_of_ble_eq_true rfl) (Nat.le_refl _) ⟨Nat.le_refl _, Nat.le_refl _⟩ w ?_
      rintro v h9 ⟨r8, rfl, w⟩
      refine v_istore_n (l' := [.ref l0, .int l1, .int 0, .int r8]) dX12_takePart_34 (Nat.le_of_ble_eq_true rfl) rfl ?_
      refine w_iload_n dX12_takePart_35 rfl ?_
      refine w_if_ge (tgt := 69) dX12_takePart_36 rfl (fun c => ?_) (fun c => ?_)
      · rw [if_pos c] at w
        refine w_iload_n dX12_takePart_69 rfl ?_
        refine w_iconst (v := 5) dX12_takePart_70 rfl ?_
        refine w_ic_ne (tgt := 79) dX12_takePart_71 rfl (fun c => ?_) (fun c => ?_)
        · rw [if_neg c] at w
          exact w
        · rw [if_pos c] at w
          refine w_aload_n dX12_takePart_74 rfl ?_
          refine w_iconst (v := 5) dX12_takePart_75 rfl ?_
          obtain ⟨e1, w⟩ := w
          refine w_callV (As := [.int 5]) (st := []) dX12_takePart_76 mt_X12_wrong g_1595 g_1597 g_78 rfl e1 rfl rfl (Nat.le_of_ble_eq_true rfl) (Nat.le_refl _) ⟨Nat.le_refl _, Nat.le_refl _⟩ w ?_
          rintro v h11 ⟨rfl, w⟩
          exact w
      · rw [if_neg c] at w
        refine w_iload_n dX12_takePart_39 rfl ?_
        refine w_if_ne (tgt := 69) dX12_takePart_40 rfl (fun c => ?_) (fun c => ?_)
        · exact absurd c (by decide)
        · refine w_aload_n dX12_takePart_43 rfl ?_
          refine w_bipush (v := 40) dX12_takePart_44 rfl ?_
          obtain ⟨e1, w⟩ := w
          refine w_callV (As := [.int 40]) (st := []) dX12_takePart_46 mt_X12_isSign g_1659 g_1661 g_94 rfl e1 rfl rfl (Nat.le_of_ble_eq_true rfl) (Nat.le_refl _) ⟨Nat.le_refl _, Nat.le_refl _⟩ w ?_
          rintro v h13 ⟨r12, rfl, w⟩
          refine w_if_ne (tgt := 69) dX12_takePart_49 rfl (fun c => ?_) (fun c => ?_)
          · rw [if_neg c] at w
            refine w_iload_n dX12_takePart_69 rfl ?_
            refine w_iconst (v := 5) dX12_takePart_70 rfl ?_
            refine w_ic_ne (tgt := 79) dX12_takePart_71 rfl (fun c => ?_) (fun c => ?_)
            · rw [if_neg c] at w
              exact w
            · rw [if_pos c] at w
              refine w_aload_n dX12_takePart_74 rfl ?_
              refine w_iconst (v := 5) dX12_takePart_75 rfl ?_
              obtain ⟨e1, w⟩ := w
              refine w_callV (As := [.int 5]) (st := []) dX12_takePart_76 mt_X12_wrong g_1595 g_1597 g_78 rfl e1 rfl rfl (Nat.le_of_ble_eq_true rfl) (Nat.le_refl _) ⟨Nat.le_refl _, Nat.le_refl _⟩ w ?_
              rintro v h21 ⟨rfl, w⟩
              exact w
          · rw [if_pos c] at w
            refine w_aload_n dX12_takePart_52 rfl ?_
            refine w_bipush (v := 15) dX12_takePart_53 rfl ?_
            obtain ⟨e1, w⟩ := w
            refine w_callV (As := [.int 15]) (st := []) dX12_takePart_55 mt_X12_isWord g_1583 g_1585 g_75 rfl e1 rfl rfl (Nat.le_of_ble_eq_true rfl) (Nat.le_refl _) ⟨Nat.le_refl _, Nat.le_refl _⟩ w ?_
            rintro v h15 ⟨r14, rfl, w⟩
            refine w_if_ne (tgt := 69) dX12_takePart_58 rfl (fun c => ?_) (fun c => ?_)
            · rw [if_neg c] at w
              refine w_iload_n dX12_takePart_69 rfl ?_
              refine w_iconst (v := 5) dX12_takePart_70 rfl ?_
              refine w_ic_ne (tgt := 79) dX12_takePart_71 rfl (fun c => ?_) (fun c => ?_)
              · rw [if_neg c] at w
                exact w
              · rw [if_pos c] at w
                refine w_aload_n dX12_takePart_74 rfl ?_
                refine w_iconst (v := 5) dX12_takePart_75 rfl ?_
                obtain ⟨e1, w⟩ := w
                refine w_callV (As := [.int 5]) (st := []) dX12_takePart_76 mt_X12_wrong g_1595 g_1597 g_78 rfl e1 rfl rfl (Nat.le_of_ble_eq_true rfl) (Nat.le_refl _) ⟨Nat.le_refl _, Nat.le_refl _⟩ w ?_
                rintro v h19 ⟨rfl, w⟩
                exact w
            · rw [if_pos c] at w
              refine w_aload_n dX12_takePart_61 rfl ?_
              refine w_iconst (v := 1) dX12_takePart_62 rfl ?_
              obtain ⟨e1, w⟩ := w
              refine w_callV (As := [.int 1]) (st := []) dX12_takePart_63 mt_X12_wrong g_1595 g_1597 g_78 rfl e1 rfl rfl (Nat.le_of_ble_eq_true rfl) (Nat.le_refl _) ⟨Nat.le_refl _, Nat.le_refl _⟩ w ?_
              rintro v h17 ⟨rfl, w⟩
              refine w_goto (tgt := 79) dX12_takePart_66 rfl ?_
              exact w
    · rw [if_pos c] at w
      refine w_iconst (v := 1) dX12_takePart_21 rfl ?_
      refine w_goto (tgt := 26) dX12_takePart_22 rfl ?_
      refine v_istore_n (l' := [.ref l0, .int l1, .int 1, .null]) dX12_takePart_26 (Nat.le_of_ble_eq_true rfl) rfl ?_
      refine w_aload_n dX12_takePart_27 rfl ?_
      refine w_bipush (v := 18) dX12_takePart_28 rfl ?_
      refine w_iconst (v := 4) dX12_takePart_30 rfl ?_
      refine w_callV (As := [.int 18, .int 4]) (st := []) dX12_takePart_31 mt_X12_wordHere g_1603 g_1605 g_80 rfl e1 rfl rfl (Nat.le_of_ble_eq_true rfl) (Nat.le_refl _) ⟨Nat.le_refl _, Nat.le_refl _⟩ w ?_
      rintro v h3 ⟨r2, rfl, w⟩
      refine v_istore_n (l' := [.ref l0, .int l1, .int 1, .int r2]) dX12_takePart_34 (Nat.le_of_ble_eq_true rfl) rfl ?_
      refine w_iload_n dX12_takePart_35 rfl ?_
      refine w_if_ge (tgt := 69) dX12_takePart_36 rfl (fun c => ?_) (fun c => ?_)
      · rw [if_pos c] at w
        refine w_iload_n dX12_takePart_69 rfl ?_
        refine w_iconst (v := 5) dX12_takePart_70 rfl ?_
        refine w_ic_ne (tgt := 79) dX12_takePart_71 rfl (fun c => ?_) (fun c => ?_)
        · rw [if_neg c] at w
          exact w
        · rw [if_pos c] at w
          refine w_aload_n dX12_takePart_74 rfl ?_
          refine w_iconst (v := 5) dX12_takePart_75 rfl ?_
          obtain ⟨e1, w⟩ := w
          refine w_callV (As := [.int 5]) (st := []) dX12_takePart_76 mt_X12_wrong g_1595 g_1597 g_78 rfl e1 rfl rfl (Nat.le_of_ble_eq_true rfl) (Nat.le_refl _) ⟨Nat.le_refl _, Nat.le_refl _⟩ w ?_
          rintro v h5 ⟨rfl, w⟩
          exact w
      · rw [if_neg c] at w
        refine w_iload_n dX12_takePart_39 rfl ?_
        refine w_if_ne (tgt := 69) dX12_takePart_40 rfl (fun c => ?_) (fun c => ?_)
        · refine w_iload_n dX12_takePart_69 rfl ?_
          refine w_iconst (v := 5) dX12_takePart_70 rfl ?_
          refine w_ic_ne (tgt := 79) dX12_takePart_71 rfl (fun c => ?_) (fun c => ?_)
          · rw [if_neg c] at w
            exact w
          · rw [if_pos c] at w
            refine w_aload_n dX12_takePart_74 rfl ?_
            refine w_iconst (v := 5) dX12_takePart_75 rfl ?_
            obtain ⟨e1, w⟩ := w
            refine w_callV (As := [.int 5]) (st := []) dX12_takePart_76 mt_X12_wrong g_1595 g_1597 g_78 rfl e1 rfl rfl (Nat.le_of_ble_eq_true rfl) (Nat.le_refl _) ⟨Nat.le_refl _, Nat.le_refl _⟩ w ?_
            rintro v h7 ⟨rfl, w⟩
            exact w
        · exact absurd c (by decide)
  · rw [if_neg c] at w
    exact w_return dX12_takePart_7 rfl ⟨Nat.le_refl _, Nat.le_refl _⟩ w
set_option maxRecDepth 20000 in
set_option maxHeartbeats 4000000 in
theorem x_X12_takePart_79 {G : pm_G} {d : Nat} {post : pm_PT} {h : pm_H} {l0 : Nat} {l1 : Int32} {l2 : Int32} {l3 : Int32} (w :
    (h.1[l0]? = some (0, 11)) ∧
    if (gi h l0 8) ≤ 0 then (
      ci G d m_X12_hasWord [.ref l0, .int 15] h fun r1 h2 =>
      if r1 = 0 then (
        (h2.1[l0]? = some (0, 11)) ∧
        ci G d m_X12_hasSign [.ref l0, .int 40] h2 fun r3 h4 =>
        if r3 = 0 then (
          if l2 = 0 then (
            if l2 = 0 then (
              (h4.1[l0]? = some (0, 11)) ∧
              cv G d m_X12_emit [.ref l0, .int 2, .int l3] h4 fun h6 =>
              (h6.1[l0]? = some (0, 11)) ∧
              ∀ h7 : pm_H, h7 = si h6 l0 7 ((gi h6 l0 7) + 1) →
              post none h7
            ) else (
              (h4.1[l0]? = some (0, 11)) ∧
              ∃ n8 : Nat, h4.1[gp h4 l0 6]? = some (2, n8) ∧
              (vp_in (gi h4 l0 7) n8) ∧
              cv G d m_X12_emit [.ref l0, .int 2, .int ((gj h4 (gp h4 l0 6) (gi h4 l0 7 : Int32).toNatClampNeg : Int64).toInt32)] h4 fun h10 =>
              (h10.1[l0]? = some (0, 11)) ∧
              ∀ h11 : pm_H, h11 = si h10 l0 7 ((gi h10 l0 7) + 1) →
              post none h11
            )
          ) else (
            if l2 = 0 then (
              (h4.1[l0]? = some (0, 11)) ∧
              cv G d m_X12_emit [.ref l0, .int 1, .int l3] h4 fun h13 =>
              (h13.1[l0]? = some (0, 11)) ∧
              ∀ h14 : pm_H, h14 = si h13 l0 7 ((gi h13 l0 7) + 1) →
              post none h14
            ) else (
              (h4.1[l0]? = some (0, 11)) ∧
              ∃ n15 : Nat, h4.1[gp h4 l0 6]? = some (2, n15) ∧
              (vp_in (gi h4 l0 7) n15) ∧
              cv G d m_X12_emit [.ref l0, .int 1, .int ((gj h4 (gp h4 l0 6) (gi h4 l0 7 : Int32).toNatClampNeg : Int64).toInt32)] h4 fun h17 =>
              (h17.1[l0]? = some (0, 11)) ∧
              ∀ h18 : pm_H, h18 = si h17 l0 7 ((gi h17 l0 7) + 1) →
              post none h18
            )
          )
        ) else (
          (h4.1[l0]? = some (0, 11)) ∧
          cv G d m_X12_allOf [.ref l0, .int (l1 + 1)] h4 fun h20 =>
          (h20.1[l0]? = some (0, 11)) ∧
          cv G d m_X12_takeSign [.ref l0, .int 41] h20 fun h22 =>
          post none h22
        )
      ) else (
        (h2.1[l0]? = some (0, 11)) ∧
        cv G d m_X12_takePart [.ref l0, .int (l1 + 1)] h2 fun h24 =>
        (h24.1[l0]? = some (0, 11)) ∧
        cv G d m_X12_emit [.ref l0, .int 3, .int 0] h24 fun h26 =>
        post none h26
      )
    ) else (
      post none h
    )) :
    Wp G (m_X12_takePart, d + 1, 0, 0, post) (0, 0) 79 [.ref l0, .int l1, .int l2, .int l3] [] h := by
  refine w_aload_n dX12_takePart_79 rfl ?_
  obtain ⟨e1, w⟩ := w
  refine w_geti dX12_takePart_80 lk_RX12_146 e1 rfl ?_
  refine w_if_le (tgt := 87) dX12_takePart_83 rfl (fun c => ?_) (fun c => ?_)
  · rw [if_pos c] at w
    refine w_aload_n dX12_takePart_87 rfl ?_
    refine w_bipush (v := 15) dX12_takePart_88 rfl ?_
    refine w_callV (As := [.int 15]) (st := []) dX12_takePart_90 mt_X12_hasWord g_1627 g_1629 g_86 rfl e1 rfl rfl (Nat.le_of_ble_eq_true rfl) (Nat.le_refl _) ⟨Nat.le_refl _, Nat.le_refl _⟩ w ?_
    rintro v h2 ⟨r1, rfl, w⟩
    refine w_if_eq (tgt := 112) dX12_takePart_93 rfl (fun c => ?_) (fun c => ?_)
    · rw [if_pos c] at w
      refine w_aload_n dX12_takePart_112 rfl ?_
      refine w_bipush (v := 40) dX12_takePart_113 rfl ?_
      obtain ⟨e1, w⟩ := w
      refine w_callV (As := [.int 40]) (st := []) dX12_takePart_115 mt_X12_hasSign g_1667 g_1669 g_96 rfl e1 rfl rfl (Nat.le_of_ble_eq_true rfl) (Nat.le_refl _) ⟨Nat.le_refl _, Nat.le_refl _⟩ w ?_
      rintro v h4 ⟨r3, rfl, w⟩
      refine w_if_eq (tgt := 137) dX12_takePart_118 rfl (fun c => ?_) (fun c => ?_)
      · rw [if_pos c] at w
        refine w_aload_n dX12_takePart_137 rfl ?_
        refine w_iload_n dX12_takePart_138 rfl ?_
        refine w_if_eq (tgt := 146) dX12_takePart_139 rfl (fun c => ?_) (fun c => ?_)
        · rw [if_pos c] at w
          refine w_iconst (v := 2) dX12_takePart_146 rfl ?_
          refine w_iload_n dX12_takePart_147 rfl ?_
          refine w_if_eq (tgt := 164) dX12_takePart_148 rfl (fun c => ?_) (fun c => ?_)
          · rw [if_pos c] at w
            refine w_iload_n dX12_takePart_164 rfl ?_
            obtain ⟨e1, w⟩ := w
            refine w_callV (As := [.int 2, .int l3]) (st := []) dX12_takePart_165 mt_X12_emit g_1663 g_1665 g_95 rfl e1 rfl rfl (Nat.le_of_ble_eq_true rfl) (Nat.le_refl _) ⟨Nat.le_refl _, Nat.le_refl _⟩ w ?_
            rintro v h6 ⟨rfl, w⟩
            refine w_aload_n dX12_takePart_168 rfl ?_
            refine w_dup dX12_takePart_169 rfl ?_
            obtain ⟨e1, w⟩ := w
            refine w_geti dX12_takePart_170 lk_RX12_143 e1 rfl ?_
            refine w_iconst (v := 1) dX12_takePart_173 rfl ?_
            refine w_iadd dX12_takePart_174 ?_
            refine w_puti dX12_takePart_175 lk_RX12_143 e1 rfl (Or.inl rfl) ?_
            have w := w _ rfl
            exact w_return dX12_takePart_178 rfl ⟨Nat.le_refl _, Nat.le_refl _⟩ w
          · rw [if_neg c] at w
            refine w_aload_n dX12_takePart_151 rfl ?_
            obtain ⟨e1, w⟩ := w
            refine w_getp dX12_takePart_152 lk_RX12_30 e1 rfl ?_
            refine w_aload_n dX12_takePart_155 rfl ?_
            refine w_geti dX12_takePart_156 lk_RX12_143 e1 rfl ?_
            obtain ⟨n8, ln8, w⟩ := w
            obtain ⟨e3, w⟩ := w
            refine w_lald dX12_takePart_159 ln8 e3 ?_
            refine w_l2i dX12_takePart_160 ?_
            refine w_goto (tgt := 165) dX12_takePart_161 rfl ?_
            refine w_callV (As := [.int 2, .int ((gj h4 (gp h4 l0 6) (gi h4 l0 7 : Int32).toNatClampNeg : Int64).toInt32)]) (st := []) dX12_takePart_165 mt_X12_emit g_1663 g_1665 g_95 rfl e1 rfl rfl (Nat.le_of_ble_eq_true rfl) (Nat.le_refl _) ⟨Nat.le_refl _, Nat.le_refl _⟩ w ?_
            rintro v h10 ⟨rfl, w⟩
            refine w_aload_n dX12_takePart_168 rfl ?_
            refine w_dup dX12_takePart_169 rfl ?_
            obtain ⟨e1, w⟩ := w
            refine w_geti dX12_takePart_170 lk_RX12_143 e1 rfl ?_
            refine w_iconst (v := 1) dX12_takePart_173 rfl ?_
            refine w_iadd dX12_takePart_174 ?_
            refine w_puti dX12_takePart_175 lk_RX12_143 e1 rfl (Or.inl rfl) ?_
            have w := w _ rfl
            exact w_return dX12_takePart_178 rfl ⟨Nat.le_refl _, Nat.le_refl _⟩ w
        · rw [if_neg c] at w
          refine w_iconst (v := 1) dX12_takePart_142 rfl ?_
          refine w_goto (tgt := 147) dX12_takePart_143 rfl ?_
          refine w_iload_n dX12_takePart_147 rfl ?_
          refine w_if_eq (tgt := 164) dX12_takePart_148 rfl (fun c => ?_) (fun c => ?_)
          · rw [if_pos c] at w
            refine w_iload_n dX12_takePart_164 rfl ?_
            obtain ⟨e1, w⟩ := w
            refine w_callV (As := [.int 1, .int l3]) (st := []) dX12_takePart_165 mt_X12_emit g_1663 g_1665 g_95 rfl e1 rfl rfl (Nat.le_of_ble_eq_true rfl) (Nat.le_refl _) ⟨Nat.le_refl _, Nat.le_refl _⟩ w ?_
            rintro v h13 ⟨rfl, w⟩
            refine w_aload_n dX12_takePart_168 rfl ?_
            refine w_dup dX12_takePart_169 rfl ?_
            obtain ⟨e1, w⟩ := w
            refine w_geti dX12_takePart_170 lk_RX12_143 e1 rfl ?_
            refine w_iconst (v := 1) dX12_takePart_173 rfl ?_
            refine w_iadd dX12_takePart_174 ?_
            refine w_puti dX12_takePart_175 lk_RX12_143 e1 rfl (Or.inl rfl) ?_
            have w := w _ rfl
            exact w_return dX12_takePart_178 rfl ⟨Nat.le_refl _, Nat.le_refl _⟩ w
          · rw [if_neg c] at w
            refine w_aload_n dX12_takePart_151 rfl ?_
            obtain ⟨e1, w⟩ := w
            refine w_getp dX12_takePart_152 lk_RX12_30 e1 rfl ?_
            refine w_aload_n dX12_takePart_155 rfl ?_
            refine w_geti dX12_takePart_156 lk_RX12_143 e1 rfl ?_
            obtain ⟨n15, ln15, w⟩ := w
            obtain ⟨e3, w⟩ := w
            refine w_lald dX12_takePart_159 ln15 e3 ?_
            refine w_l2i dX12_takePart_160 ?_
            refine w_goto (tgt := 165) dX12_takePart_161 rfl ?_
            refine w_callV (As := [.int 1, .int ((gj h4 (gp h4 l0 6) (gi h4 l0 7 : Int32).toNatClampNeg : Int64).toInt32)]) (st := []) dX12_takePart_165 mt_X12_emit g_1663 g_1665 g_95 rfl e1 rfl rfl (Nat.le_of_ble_eq_true rfl) (Nat.le_refl _) ⟨Nat.le_refl _, Nat.le_refl _⟩ w ?_
            rintro v h17 ⟨rfl, w⟩
            refine w_aload_n dX12_takePart_168 rfl ?_
            refine w_dup dX12_takePart_169 rfl ?_
            obtain ⟨e1, w⟩ := w
            refine w_geti dX12_takePart_170 lk_RX12_143 e1 rfl ?_
            refine w_iconst (v := 1) dX12_takePart_173 rfl ?_
            refine w_iadd dX12_takePart_174 ?_
            refine w_puti dX12_takePart_175 lk_RX12_143 e1 rfl (Or.inl rfl) ?_
            have w := w _ rfl
            exact w_return dX12_takePart_178 rfl ⟨Nat.le_refl _, Nat.le_refl _⟩ w
      · rw [if_neg c] at w
        refine w_aload_n dX12_takePart_121 rfl ?_
        refine w_iload_n dX12_takePart_122 rfl ?_
        refine w_iconst (v := 1) dX12_takePart_123 rfl ?_
        refine w_iadd dX12_takePart_124 ?_
        obtain ⟨e1, w⟩ := w
        refine w_callV (As := [.int (l1 + 1)]) (st := []) dX12_takePart_125 mt_X12_allOf g_1639 g_1641 g_89 rfl e1 rfl rfl (Nat.le_of_ble_eq_true rfl) (Nat.le_refl _) ⟨Nat.le_refl _, Nat.le_refl _⟩ w ?_
        rintro v h20 ⟨rfl, w⟩
        refine w_aload_n dX12_takePart_128 rfl ?_
        refine w_bipush (v := 41) dX12_takePart_129 rfl ?_
        obtain ⟨e1, w⟩ := w
        refine w_callV (As := [.int 41]) (st := []) dX12_takePart_131 mt_X12_takeSign g_1671 g_1673 g_97 rfl e1 rfl rfl (Nat.le_of_ble_eq_true rfl) (Nat.le_refl _) ⟨Nat.le_refl _, Nat.le_refl _⟩ w ?_
        rintro v h22 ⟨rfl, w⟩
        refine w_goto (tgt := 178) dX12_takePart_134 rfl ?_
        exact w_return dX12_takePart_178 rfl ⟨Nat.le_refl _, Nat.le_refl _⟩ w
    · rw [if_neg c] at w
      refine w_aload_n dX12_takePart_96 rfl ?_
      refine w_iload_n dX12_takePart_97 rfl ?_
      refine w_iconst (v := 1) dX12_takePart_98 rfl ?_
      refine w_iadd dX12_takePart_99 ?_
      obtain ⟨e1, w⟩ := w
      refine w_callV (As := [.int (l1 + 1)]) (st := []) dX12_takePart_100 mt_X12_takePart g_1655 g_1657 g_93 rfl e1 rfl rfl (Nat.le_of_ble_eq_true rfl) (Nat.le_refl _) ⟨Nat.le_refl _, Nat.le_refl _⟩ w ?_
      rintro v h24 ⟨rfl, w⟩
      refine w_aload_n dX12_takePart_103 rfl ?_
      refine w_iconst (v := 3) dX12_takePart_104 rfl ?_
      refine w_iconst (v := 0) dX12_takePart_105 rfl ?_
      obtain ⟨e1, w⟩ := w
      refine w_callV (As := [.int 3, .int 0]) (st := []) dX12_takePart_106 mt_X12_emit g_1663 g_1665 g_95 rfl e1 rfl rfl (Nat.le_of_ble_eq_true rfl) (Nat.le_refl _) ⟨Nat.le_refl _, Nat.le_refl _⟩ w ?_
      rintro v h26 ⟨rfl, w⟩
      refine w_goto (tgt := 178) dX12_takePart_109 rfl ?_
      exact w_return dX12_takePart_178 rfl ⟨Nat.le_refl _, Nat.le_refl _⟩ w
  · rw [if_neg c] at w
    exact w_return dX12_takePart_86 rfl ⟨Nat.le_refl _, Nat.le_refl _⟩ w
set_option maxRecDepth 20000 in
set_option maxHeartbeats 4000000 in
theorem x_X12_worthAt {G : pm_G} {d : Nat} {post : pm_PT} {h : pm_H} {l0 : Nat} {l1 : Int32} (w :
    Wp G (m_X12_worthAt, d + 1, 0, 0, post) (0, 0) 4 [.ref l0, .null, .int 0, .int l1, .null] [] h) :
    Wp G (m_X12_worthAt, d + 1, 0, 0, post) (0, 0) 0 [.ref l0, .int l1, .null, .null, .null] [] h := by
  refine w_iconst (v := 0) dX12_worthAt_0 rfl ?_
  refine v_istore_n (l' := [.ref l0, .int l1, .int 0, .null, .null]) dX12_worthAt_1 (Nat.le_of_ble_eq_true rfl) rfl ?_
  refine w_iload_n dX12_worthAt_2 rfl ?_
  refine v_istore_n (l' := [.ref l0, .int l1, .int 0, .int l1, .null]) dX12_worthAt_3 (Nat.le_of_ble_eq_true rfl) rfl ?_
  exact w_drop (l' := [.ref l0, .null, .int 0, .int l1, .null]) ⟨Or.inr rfl, Or.inl rfl, Or.inr rfl, Or.inr rfl, Or.inl rfl, trivial⟩ w
set_option maxRecDepth 20000 in
set_option maxHeartbeats 4000000 in
theorem x_X12_worthAt_4 {G : pm_G} {d : Nat} {post : pm_PT} {h : pm_H} {l0 : Nat} {l2 : Int32} {l3 : Int32} (w :
    (h.1[l0]? = some (0, 11)) ∧
    ∃ n1 : Nat, h.1[gp h l0 11]? = some (1, n1) ∧
    (vp_in l3 n1) ∧
    if ((gi h (gp h l0 11) (l3 : Int32).toNatClampNeg) - (gi h (gp h l0 11) (l3 : Int32).toNatClampNeg) / 16 * 16) = 0 then (
      ∃ n2 : Nat, h.1[gp h l0 16]? = some (1, n2) ∧
      (vp_in 0 n2) ∧
      post (some (.int (gi h (gp h l0 16) (0 : Int32).toNatClampNeg))) h
    ) else (
      ∀ x3 : Int32, x3 = (gi h (gp h l0 11) (l3 : Int32).toNatClampNeg) - (gi h (gp h l0 11) (l3 : Int32).toNatClampNeg) / 16 * 16 →
      if x3 = 1 then (
        Wp G (m_X12_worthAt, d + 1, 0, 0, post) (0, 0) 39 [.ref l0, .null, .int l2, .int l3, .int x3] [] h
      ) else (
        if x3 = 2 then (
          Wp G (m_X12_worthAt, d + 1, 0, 0, post) (0, 0) 39 [.ref l0, .null, .int l2, .int l3, .int x3] [] h
        ) else (
          if x3 = 3 then (
            ∃ n4 : Nat, h.1[gp h l0 16]? = some (1, n4) ∧
            (vp_in (l2 - 1) n4) ∧
            if (gi h (gp h l0 16) (l2 - 1 : Int32).toNatClampNeg) = 0 then (
              ∀ h5 : pm_H, h5 = si h (gp h l0 16) (l2 - 1 : Int32).toNatClampNeg 1 →
              Wp G (m_X12_worthAt, d + 1, 0, 0, post) (0, 0) 4 [.ref l0, .null, .int l2, .int (l3 + 1), .null] [] h5
            ) else (
              ∀ h6 : pm_H, h6 = si h (gp h l0 16) (l2 - 1 : Int32).toNatClampNeg 0 →
              Wp G (m_X12_worthAt, d + 1, 0, 0, post) (0, 0) 4 [.ref l0, .null, .int l2, .int (l3 + 1), .null] [] h6
            )
          ) else (
            ∃ n7 : Nat, h.1[gp h l0 16]? = some (1, n7) ∧
            (vp_in ((l2 + (-1)) - 1) n7) ∧
            (vp_in (l2 + (-1)) n7) ∧
            ci G d m_X12_worked [.int x3, .int (gi h (gp h l0 16) ((l2 + (-1)) - 1 : Int32).toNatClampNeg), .int (gi h (gp h l0 16) (l2 + (-1) : Int32).toNatClampNeg)] h fun r8 h9 =>
            ∃ n10 : Nat, h9.1[gp h l0 16]? = some (1, n10) ∧
            (vp_in ((l2 + (-1)) - 1) n10) ∧
            ∀ h11 : pm_H, h11 = si h9 (gp h l0 16) ((l2 + (-1)) - 1 : Int32).toNatClampNeg r8 →
            Wp G (m_X12_worthAt, d + 1, 0, 0, post) (0, 0) 4 [.ref l0, .null, .int (l2 + (-1)), .int (l3 + 1), .null] [] h11
          )
        )
      )
    )) :
    Wp G (m_X12_worthAt, d + 1, 0, 0, post) (0, 0) 4 [.ref l0, .null, .int l2, .int l3, .null] [] h := by
  refine w_aload_n dX12_worthAt_4 rfl ?_
  obtain ⟨e1, w⟩ := w
  refine w_getp dX12_worthAt_5 lk_RX12_82 e1 rfl ?_
  refine w_iload_n dX12_worthAt_8 rfl ?_
  obtain ⟨n1, ln1, w⟩ := w
  obtain ⟨e3, w⟩ := w
  refine w_iald dX12_worthAt_9 ln1 e3 ?_
  refine w_bipush (v := 16) dX12_worthAt_10 rfl ?_
  refine w_irem dX12_worthAt_12 (by decide) ?_
  refine w_if_eq (tgt := 152) dX12_worthAt_13 rfl (fun c => ?_) (fun c => ?_)
  · rw [if_pos c] at w
    refine w_aload_n dX12_worthAt_152 rfl ?_
    refine w_getp dX12_worthAt_153 lk_RX12_94 e1 rfl ?_
    refine w_iconst (v := 0) dX12_worthAt_156 rfl ?_
    obtain ⟨n2, ln2, w⟩ := w
    obtain ⟨e5, w⟩ := w
    refine w_iald dX12_worthAt_157 ln2 e5 ?_
    exact w_ireturn dX12_worthAt_158 rfl rfl ⟨Nat.le_refl _, Nat.le_refl _⟩ w
  · rw [if_neg c] at w
    refine w_aload_n dX12_worthAt_16 rfl ?_
    refine w_getp dX12_worthAt_17 lk_RX12_82 e1 rfl ?_
    refine w_iload_n dX12_worthAt_20 rfl ?_
    refine w_iald dX12_worthAt_21 ln1 e3 ?_
    refine w_bipush (v := 16) dX12_worthAt_22 rfl ?_
    refine w_irem dX12_worthAt_24 (by decide) ?_
    obtain ⟨x3, qx3⟩ : ∃ y : Int32, y = (gi h (gp h l0 11) (l3 : Int32).toNatClampNeg) - (gi h (gp h l0 11) (l3 : Int32).toNatClampNeg) / 16 * 16 := ⟨_, rfl⟩
    have w := w x3 qx3
    rw [← qx3]
    refine v_istore (l' := [.ref l0, .null, .int l2, .int l3, .int x3]) dX12_worthAt_25 (Nat.le_of_ble_eq_true rfl) rfl ?_
    refine w_iload dX12_worthAt_27 rfl ?_
    refine w_iconst (v := 1) dX12_worthAt_29 rfl ?_
    refine w_ic_eq (tgt := 39) dX12_worthAt_30 rfl (fun c => ?_) (fun c => ?_)
    · rw [if_pos c] at w
      exact w
    · rw [if_neg c] at w
      refine w_iload dX12_worthAt_33 rfl ?_
      refine w_iconst (v := 2) dX12_worthAt_35 rfl ?_
      refine w_ic_ne (tgt := 83) dX12_worthAt_36 rfl (fun c => ?_) (fun c => ?_)
      · rw [if_neg c] at w
        refine w_iload dX12_worthAt_83 rfl ?_
        refine w_iconst (v := 3) dX12_worthAt_85 rfl ?_
        refine w_ic_ne (tgt := 116) dX12_worthAt_86 rfl (fun c => ?_) (fun c => ?_)
        · rw [if_neg c] at w
          refine v_iinc (l' := [.ref l0, .null, .int (l2 + (-1)), .int l3, .int x3]) (v := l2 + (-1)) dX12_worthAt_116 rfl rfl (Nat.le_of_ble_eq_true rfl) rfl ?_
          refine w_aload_n dX12_worthAt_119 rfl ?_
          refine w_getp dX12_worthAt_120 lk_RX12_94 e1 rfl ?_
          refine w_iload_n dX12_worthAt_123 rfl ?_
          refine w_iconst (v := 1) dX12_worthAt_124 rfl ?_
          refine w_isub dX12_worthAt_125 ?_
          refine w_iload dX12_worthAt_126 rfl ?_
          refine w_aload_n dX12_worthAt_128 rfl ?_
          refine w_getp dX12_worthAt_129 lk_RX12_94 e1 rfl ?_
          refine w_iload_n dX12_worthAt_132 rfl ?_
          refine w_iconst (v := 1) dX12_worthAt_133 rfl ?_
          refine w_isub dX12_worthAt_134 ?_
          obtain ⟨n7, ln7, w⟩ := w
          obtain ⟨e5, w⟩ := w
          refine w_iald dX12_worthAt_135 ln7 e5 ?_
          refine w_aload_n dX12_worthAt_136 rfl ?_
          refine w_getp dX12_worthAt_137 lk_RX12_94 e1 rfl ?_
          refine w_iload_n dX12_worthAt_140 rfl ?_
          obtain ⟨e6, w⟩ := w
          refine w_iald dX12_worthAt_141 ln7 e6 ?_
          refine w_callS (As := [.int x3, .int (gi h (gp h l0 16) ((l2 + (-1)) - 1 : Int32).toNatClampNeg), .int (gi h (gp h l0 16) (l2 + (-1) : Int32).toNatClampNeg)]) (st := [.int ((l2 + (-1)) - 1), .ref (gp h l0 16)]) dX12_worthAt_142 mt_X12_worked g_1464 g_1465 rfl rfl (Nat.le_of_ble_eq_true rfl) (Nat.le_refl _) ⟨Nat.le_refl _, Nat.le_refl _⟩ w ?_
          rintro v h9 ⟨r8, rfl, w⟩
          obtain ⟨n10, ln10, w⟩ := w
          obtain ⟨e2, w⟩ := w
          refine w_iast dX12_worthAt_145 ln10 e2 ?_
          have w := w _ rfl
          refine v_iinc (l' := [.ref l0, .null, .int (l2 + (-1)), .int (l3 + 1), .int x3]) (v := l3 + 1) dX12_worthAt_146 rfl rfl (Nat.le_of_ble_eq_true rfl) rfl ?_
          refine w_goto (tgt := 4) dX12_worthAt_149 rfl ?_
          exact w_drop (l' := [.ref l0, .null, .int (l2 + (-1)), .int (l3 + 1), .null]) ⟨Or.inr rfl, Or.inl rfl, Or.inr rfl, Or.inr rfl, Or.inl rfl, trivial⟩ w
        · rw [if_pos c] at w
          refine w_aload_n dX12_worthAt_89 rfl ?_
          refine w_getp dX12_worthAt_90 lk_RX12_94 e1 rfl ?_
          refine w_iload_n dX12_worthAt_93 rfl ?_
          refine w_iconst (v := 1) dX12_worthAt_94 rfl ?_
          refine w_isub dX12_worthAt_95 ?_
          refine w_aload_n dX12_worthAt_96 rfl ?_
          refine w_getp dX12_worthAt_97 lk_RX12_94 e1 rfl ?_
          refine w_iload_n dX12_worthAt_100 rfl ?_
          refine w_iconst (v := 1) dX12_worthAt_101 rfl ?_
          refine w_isub dX12_worthAt_102 ?_
          obtain ⟨n4, ln4, w⟩ := w
          obtain ⟨e5, w⟩ := w
          refine w_iald dX12_worthAt_103 ln4 e5 ?_
          refine w_if_ne (tgt := 111) dX12_worthAt_104 rfl (fun c => ?_) (fun c => ?_)
          · rw [if_neg c] at w
            refine w_iconst (v := 0) dX12_worthAt_111 rfl ?_
            refine w_iast dX12_worthAt_112 ln4 e5 ?_
            have w := w _ rfl
            refine w_goto (tgt := 146) dX12_worthAt_113 rfl ?_
            refine v_iinc (l' := [.ref l0, .null, .int l2, .int (l3 + 1), .int x3]) (v := l3 + 1) dX12_worthAt_146 rfl rfl (Nat.le_of_ble_eq_true rfl) rfl ?_
            refine w_goto (tgt := 4) dX12_worthAt_149 rfl ?_
            exact w_drop (l' := [.ref l0, .null, .int l2, .int (l3 + 1), .null]) ⟨Or.inr rfl, Or.inl rfl, Or.inr rfl, Or.inr rfl, Or.inl rfl, trivial⟩ w
          · rw [if_pos c] at w
            refine w_iconst (v := 1) dX12_worthAt_107 rfl ?_
            refine w_goto (tgt := 112) dX12_worthAt_108 rfl ?_
            refine w_iast dX12_worthAt_112 ln4 e5 ?_
            have w := w _ rfl
            refine w_goto (tgt := 146) dX12_worthAt_113 rfl ?_
            refine v_iinc (l' := [.ref l0, .null, .int l2, .int (l3 + 1), .int x3]) (v := l3 + 1) dX12_worthAt_146 rfl rfl (Nat.le_of_ble_eq_true rfl) rfl ?_
            refine w_goto (tgt := 4) dX12_worthAt_149 rfl ?_
            exact w_drop (l' := [.ref l0, .null, .int l2, .int (l3 + 1), .null]) ⟨Or.inr rfl, Or.inl rfl, Or.inr rfl, Or.inr rfl, Or.inl rfl, trivial⟩ w
      · rw [if_pos c] at w
        exact w
set_option maxRecDepth 20000 in
set_option maxHeartbeats 4000000 in
theorem x_X12_worthAt_39 {G : pm_G} {d : Nat} {post : pm_PT} {h : pm_H} {l0 : Nat} {l2 : Int32} {l3 : Int32} {l4 : Int32} (w :
    (h.1[l0]? = some (0, 11)) ∧
    if l4 = 1 then (
      ∃ n1 : Nat, h.1[gp h l0 11]? = some (1, n1) ∧
      (vp_in l3 n1) ∧
      ∃ n2 : Nat, h.1[gp h l0 16]? = some (1, n2) ∧
      (vp_in l2 n2) ∧
      ∀ h3 : pm_H, h3 = si h (gp h l0 16) (l2 : Int32).toNatClampNeg ((gi h (gp h l0 11) (l3 : Int32).toNatClampNeg) / 16) →
      Wp G (m_X12_worthAt, d + 1, 0, 0, post) (0, 0) 4 [.ref l0, .null, .int (l2 + 1), .int (l3 + 1), .null] [] h3
    ) else (
      ∃ n4 : Nat, h.1[gp h l0 11]? = some (1, n4) ∧
      (vp_in l3 n4) ∧
      ∃ n5 : Nat, h.1[gp h l0 15]? = some (1, n5) ∧
      (vp_in ((gi h (gp h l0 11) (l3 : Int32).toNatClampNeg) / 16) n5) ∧
      ∃ n6 : Nat, h.1[gp h l0 16]? = some (1, n6) ∧
      (vp_in l2 n6) ∧
      ∀ h7 : pm_H, h7 = si h (gp h l0 16) (l2 : Int32).toNatClampNeg (gi h (gp h l0 15) ((gi h (gp h l0 11) (l3 : Int32).toNatClampNeg) / 16 : Int32).toNatClampNeg) →
      Wp G (m_X12_worthAt, d + 1, 0, 0, post) (0, 0) 4 [.ref l0, .null, .int (l2 + 1), .int (l3 + 1), .null] [] h7
    )) :
    Wp G (m_X12_worthAt, d + 1, 0, 0, post) (0, 0) 39 [.ref l0, .null, .int l2, .int l3, .int l4] [] h := by
  refine w_aload_n dX12_worthAt_39 rfl ?_
  obtain ⟨e1, w⟩ := w
  refine w_getp dX12_worthAt_40 lk_RX12_94 e1 rfl ?_
  refine w_iload_n dX12_worthAt_43 rfl ?_
  refine w_iload dX12_worthAt_44 rfl ?_
  refine w_iconst (v := 1) dX12_worthAt_46 rfl ?_
  refine w_ic_ne (tgt := 62) dX12_worthAt_47 rfl (fun c => ?_) (fun c => ?_)
  · rw [if_neg c] at w
    refine w_aload_n dX12_worthAt_62 rfl ?_
    refine w_getp dX12_worthAt_63 lk_RX12_91 e1 rfl ?_
    refine w_aload_n dX12_worthAt_66 rfl ?_
    refine w_getp dX12_worthAt_67 lk_RX12_82 e1 rfl ?_
    refine w_iload_n dX12_worthAt_70 rfl ?_
    obtain ⟨n4, ln4, w⟩ := w
    obtain ⟨e3, w⟩ := w
    refine w_iald dX12_worthAt_71 ln4 e3 ?_
    refine w_bipush (v := 16) dX12_worthAt_72 rfl ?_
    refine w_idiv dX12_worthAt_74 (by decide) ?_
    obtain ⟨n5, ln5, w⟩ := w
    obtain ⟨e5, w⟩ := w
    refine w_iald dX12_worthAt_75 ln5 e5 ?_
    obtain ⟨n6, ln6, w⟩ := w
    obtain ⟨e7, w⟩ := w
    refine w_iast dX12_worthAt_76 ln6 e7 ?_
    have w := w _ rfl
    refine v_iinc (l' := [.ref l0, .null, .int (l2 + 1), .int l3, .int l4]) (v := l2 + 1) dX12_worthAt_77 rfl rfl (Nat.le_of_ble_eq_true rfl) rfl ?_
    refine w_goto (tgt := 146) dX12_worthAt_80 rfl ?_
    refine v_iinc (l' := [.ref l0, .null, .int (l2 + 1), .int (l3 + 1), .int l4]) (v := l3 + 1) dX12_worthAt_146 rfl rfl (Nat.le_of_ble_eq_true rfl) rfl ?_
    refine w_goto (tgt := 4) dX12_worthAt_149 rfl ?_
    exact w_drop (l' := [.ref l0, .null, .int (l2 + 1), .int (l3 + 1), .null]) ⟨Or.inr rfl, Or.inl rfl, Or.inr rfl, Or.inr rfl, Or.inl rfl, trivial⟩ w
  · rw [if_pos c] at w
    refine w_aload_n dX12_worthAt_50 rfl ?_
    refine w_getp dX12_worthAt_51 lk_RX12_82 e1 rfl ?_
    refine w_iload_n dX12_worthAt_54 rfl ?_
    obtain ⟨n1, ln1, w⟩ := w
    obtain ⟨e3, w⟩ := w
    refine w_iald dX12_worthAt_55 ln1 e3 ?_
    refine w_bipush (v := 16) dX12_worthAt_56 rfl ?_
    refine w_idiv dX12_worthAt_58 (by decide) ?_
    refine w_goto (tgt := 76) dX12_worthAt_59 rfl ?_
    obtain ⟨n2, ln2, w⟩ := w
    obtain ⟨e5, w⟩ := w
    refine w_iast dX12_worthAt_76 ln2 e5 ?_
    have w := w _ rfl
    refine v_iinc (l' := [.ref l0, .null, .int (l2 + 1), .int l3, .int l4]) (v := l2 + 1) dX12_worthAt_77 rfl rfl (Nat.le_of_ble_eq_true rfl) rfl ?_
    refine w_goto (tgt := 146) dX12_worthAt_80 rfl ?_
    refine v_iinc (l' := [.ref l0, .null, .int (l2 + 1), .int (l3 + 1), .int l4]) (v := l3 + 1) dX12_worthAt_146 rfl rfl (Nat.le_of_ble_eq_true rfl) rfl ?_
    refine w_goto (tgt := 4) dX12_worthAt_149 rfl ?_
    exact w_drop (l' := [.ref l0, .null, .int (l2 + 1), .int (l3 + 1), .null]) ⟨Or.inr rfl, Or.inl rfl, Or.inr rfl, Or.inr rfl, Or.inl rfl, trivial⟩ w
set_option maxRecDepth 20000 in
set_option maxHeartbeats 4000000 in
theorem x_X12_worked {G : pm_G} {d : Nat} {post : pm_PT} {h : pm_H} {l0 : Int32} {l1 : Int32} {l2 : Int32} (w :
    if l0 = 4 then (
      post (some (.int (l1 + l2))) h
    ) else (
    if l0 = 5 then (
      post (some (.int (l1 - l2))) h
    ) else (
    if l0 = 6 then (
      post (some (.int (l1 * l2))) h
    ) else (
    if l0 = 7 then (
      if l2 ≤ l1 then (
        post (some (.int 0)) h
      ) else (
        post (some (.int 1)) h
      )
    ) else (
    if l0 = 8 then (
      if l1 = l2 then (
        post (some (.int 1)) h
      ) else (
        post (some (.int 0)) h
      )
    ) else (
    if l0 = 9 then (
      if l1 = 0 then (
        post (some (.int 0)) h
      ) else (
        if l2 = 0 then (
          post (some (.int 0)) h
        ) else (
          post (some (.int 1)) h
        )
      )
    ) else (
    if l1 = 0 then (
      if l2 = 0 then (
        post (some (.int 0)) h
      ) else (
        post (some (.int 1)) h
      )
    ) else (
      post (some (.int 1)) h
    )
    ))))))) :
    Wp G (m_X12_worked, d + 1, 0, 0, post) (0, 0) 0 [.int l0, .int l1, .int l2] [] h := by
  refine w_iload_n dX12_worked_0 rfl ?_
  have sw : (l0 : Int32).toInt < 4 ∨ 9 < (l0 : Int32).toInt ∨ (l0 : Int32).toInt = 4 ∨ (l0 : Int32).toInt = 5 ∨ (l0 : Int32).toInt = 6 ∨ (l0 : Int32).toInt = 7 ∨ (l0 : Int32).toInt = 8 ∨ (l0 : Int32).toInt = 9 := by omega
  rcases sw with sw | sw | sw | sw | sw | sw | sw | sw
  · refine w_tsw (tgt := 88) dX12_worked_1 (by rw [if_pos (by first | exact Or.inl sw | exact Or.inr sw)]; rfl) (by first | exact Or.inl sw | exact Or.inr (Or.inl sw)) ?_
    rw [if_neg (fun q => by rw [q] at sw; revert sw; decide)] at w
    rw [if_neg (fun q => by rw [q] at sw; revert sw; decide)] at w
    rw [if_neg (fun q => by rw [q] at sw; revert sw; decide)] at w
    rw [if_neg (fun q => by rw [q] at sw; revert sw; decide)] at w
    rw [if_neg (fun q => by rw [q] at sw; revert sw; decide)] at w
    rw [if_neg (fun q => by rw [q] at sw; revert sw; decide)] at w
    refine w_iload_n dX12_worked_88 rfl ?_
    refine w_if_ne (tgt := 96) dX12_worked_89 rfl (fun c => ?_) (fun c => ?_)
    · rw [if_neg c] at w
      refine w_iconst (v := 1) dX12_worked_96 rfl ?_
      refine w_goto (tgt := 101) dX12_worked_97 rfl ?_
      exact w_ireturn dX12_worked_101 rfl rfl ⟨Nat.le_refl _, Nat.le_refl _⟩ w
    · rw [if_pos c] at w
      refine w_iload_n dX12_worked_92 rfl ?_
      refine w_if_eq (tgt := 100) dX12_worked_93 rfl (fun c => ?_) (fun c => ?_)
      · rw [if_pos c] at w
        refine w_iconst (v := 0) dX12_worked_100 rfl ?_
        exact w_ireturn dX12_worked_101 rfl rfl ⟨Nat.le_refl _, Nat.le_refl _⟩ w
      · rw [if_neg c] at w
        refine w_iconst (v := 1) dX12_worked_96 rfl ?_
        refine w_goto (tgt := 101) dX12_worked_97 rfl ?_
        exact w_ireturn dX12_worked_101 rfl rfl ⟨Nat.le_refl _, Nat.le_refl _⟩ w
  · refine w_tsw (tgt := 88) dX12_worked_1 (by rw [if_pos (by first | exact Or.inl sw | exact Or.inr sw)]; rfl) (by first | exact Or.inl sw | exact Or.inr (Or.inl sw)) ?_
    rw [if_neg (fun q => by rw [q] at sw; revert sw; decide)] at w
    rw [if_neg (fun q => by rw [q] at sw; revert sw; decide)] at w
    rw [if_neg (fun q => by rw [q] at sw; revert sw; decide)] at w
    rw [if_neg (fun q => by rw [q] at sw; revert sw; decide)] at w
    rw [if_neg (fun q => by rw [q] at sw; revert sw; decide)] at w
    rw [if_neg (fun q => by rw [q] at sw; revert sw; decide)] at w
    refine w_iload_n dX12_worked_88 rfl ?_
    refine w_if_ne (tgt := 96) dX12_worked_89 rfl (fun c => ?_) (fun c => ?_)
    · rw [if_neg c] at w
      refine w_iconst (v := 1) dX12_worked_96 rfl ?_
      refine w_goto (tgt := 101) dX12_worked_97 rfl ?_
      exact w_ireturn dX12_worked_101 rfl rfl ⟨Nat.le_refl _, Nat.le_refl _⟩ w
    · rw [if_pos c] at w
      refine w_iload_n dX12_worked_92 rfl ?_
      refine w_if_eq (tgt := 100) dX12_worked_93 rfl (fun c => ?_) (fun c => ?_)
      · rw [if_pos c] at w
        refine w_iconst (v := 0) dX12_worked_100 rfl ?_
        exact w_ireturn dX12_worked_101 rfl rfl ⟨Nat.le_refl _, Nat.le_refl _⟩ w
      · rw [if_neg c] at w
        refine w_iconst (v := 1) dX12_worked_96 rfl ?_
        refine w_goto (tgt := 101) dX12_worked_97 rfl ?_
        exact w_ireturn dX12_worked_101 rfl rfl ⟨Nat.le_refl _, Nat.le_refl _⟩ w
  · have sv : (l0 : Int32) = 4 := Int32.toInt_inj.mp (sw.trans (by decide))
    refine w_tsw (tgt := 40) dX12_worked_1 (by rw [sw]; rfl) (by rw [sw]; decide) ?_
    rw [if_pos sv] at w
    refine w_iload_n dX12_worked_40 rfl ?_
    refine w_iload_n dX12_worked_41 rfl ?_
    refine w_iadd dX12_worked_42 ?_
    exact w_ireturn dX12_worked_43 rfl rfl ⟨Nat.le_refl _, Nat.le_refl _⟩ w
  · have sv : (l0 : Int32) = 5 := Int32.toInt_inj.mp (sw.trans (by decide))
    refine w_tsw (tgt := 44) dX12_worked_1 (by rw [sw]; rfl) (by rw [sw]; decide) ?_
    rw [if_neg (fun q => by rw [q] at sw; revert sw; decide)] at w
    rw [if_pos sv] at w
    refine w_iload_n dX12_worked_44 rfl ?_
    refine w_iload_n dX12_worked_45 rfl ?_
    refine w_isub dX12_worked_46 ?_
    exact w_ireturn dX12_worked_47 rfl rfl ⟨Nat.le_refl _, Nat.le_refl _⟩ w
  · have sv : (l0 : Int32) = 6 := Int32.toInt_inj.mp (sw.trans (by decide))
    refine w_tsw (tgt := 48) dX12_worked_1 (by rw [sw]; rfl) (by rw [sw]; decide) ?_
    rw [if_neg (fun q => by rw [q] at sw; revert sw; decide)] at w
    rw [if_neg (fun q => by rw [q] at sw; revert sw; decide)] at w
    rw [if_pos sv] at w
    refine w_iload_n dX12_worked_48 rfl ?_
    refine w_iload_n dX12_worked_49 rfl ?_
    refine w_imul dX12_worked_50 ?_
    exact w_ireturn dX12_worked_51 rfl rfl ⟨Nat.le_refl _, Nat.le_refl _⟩ w
  · have sv : (l0 : Int32) = 7 := Int32.toInt_inj.mp (sw.trans (by decide))
    refine w_tsw (tgt := 52) dX12_worked_1 (by rw [sw]; rfl) (by rw [sw]; decide) ?_
    rw [if_neg (fun q => by rw [q] at sw; revert sw; decide)] at w
    rw [if_neg (fun q => by rw [q] at sw; revert sw; decide)] at w
    rw [if_neg (fun q => by rw [q] at sw; revert sw; decide)] at w
    rw [if_pos sv] at w
    refine w_iload_n dX12_worked_52 rfl ?_
    refine w_iload_n dX12_worked_53 rfl ?_
    refine w_ic_ge (tgt := 61) dX12_worked_54 rfl (fun c => ?_) (fun c => ?_)
    · rw [if_pos c] at w
      refine w_iconst (v := 0) dX12_worked_61 rfl ?_
      exact w_ireturn dX12_worked_62 rfl rfl ⟨Nat.le_refl _, Nat.le_refl _⟩ w
    · rw [if_neg c] at w
      refine w_iconst (v := 1) dX12_worked_57 rfl ?_
      refine w_goto (tgt := 62) dX12_worked_58 rfl ?_
      exact w_ireturn dX12_worked_62 rfl rfl ⟨Nat.le_refl _, Nat.le_refl _⟩ w
  · have sv : (l0 : Int32) = 8 := Int32.toInt_inj.mp (sw.trans (by decide))
    refine w_tsw (tgt := 63) dX12_worked_1 (by rw [sw]; rfl) (by rw [sw]; decide) ?_
    rw [if_neg (fun q => by rw [q] at sw; revert sw; decide)] at w
    rw [if_neg (fun q => by rw [q] at sw; revert sw; decide)] at w
    rw [if_neg (fun q => by rw [q] at sw; revert sw; decide)] at w
    rw [if_neg (fun q => by rw [q] at sw; revert sw; decide)] at w
    rw [if_pos sv] at w
    refine w_iload_n dX12_worked_63 rfl ?_
    refine w_iload_n dX12_worked_64 rfl ?_
    refine w_ic_ne (tgt := 72) dX12_worked_65 rfl (fun c => ?_) (fun c => ?_)
    · rw [if_neg c] at w
      refine w_iconst (v := 0) dX12_worked_72 rfl ?_
      exact w_ireturn dX12_worked_73 rfl rfl ⟨Nat.le_refl _, Nat.le_refl _⟩ w
    · rw [if_pos c] at w
      refine w_iconst (v := 1) dX12_worked_68 rfl ?_
      refine w_goto (tgt := 73) dX12_worked_69 rfl ?_
      exact w_ireturn dX12_worked_73 rfl rfl ⟨Nat.le_refl _, Nat.le_refl _⟩ w
  · have sv : (l0 : Int32) = 9 := Int32.toInt_inj.mp (sw.trans (by decide))
    refine w_tsw (tgt := 74) dX12_worked_1 (by rw [sw]; rfl) (by rw [sw]; decide) ?_
    rw [if_neg (fun q => by rw [q] at sw; revert sw; decide)] at w
    rw [if_neg (fun q => by rw [q] at sw; revert sw; decide)] at w
    rw [if_neg (fun q => by rw [q] at sw; revert sw; decide)] at w
    rw [if_neg (fun q => by rw [q] at sw; revert sw; decide)] at w
    rw [if_neg (fun q => by rw [q] at sw; revert sw; decide)] at w
    rw [if_pos sv] at w
    refine w_iload_n dX12_worked_74 rfl ?_
    refine w_if_eq (tgt := 86) dX12_worked_75 rfl (fun c => ?_) (fun c => ?_)
    · rw [if_pos c] at w
      refine w_iconst (v := 0) dX12_worked_86 rfl ?_
      exact w_ireturn dX12_worked_87 rfl rfl ⟨Nat.le_refl _, Nat.le_refl _⟩ w
    · rw [if_neg c] at w
      refine w_iload_n dX12_worked_78 rfl ?_
      refine w_if_eq (tgt := 86) dX12_worked_79 rfl (fun c => ?_) (fun c => ?_)
      · rw [if_pos c] at w
        refine w_iconst (v := 0) dX12_worked_86 rfl ?_
        exact w_ireturn dX12_worked_87 rfl rfl ⟨Nat.le_refl _, Nat.le_refl _⟩ w
      · rw [if_neg c] at w
        refine w_iconst (v := 1) dX12_worked_82 rfl ?_
        refine w_goto (tgt := 87) dX12_worked_83 rfl ?_
        exact w_ireturn dX12_worked_87 rfl rfl ⟨Nat.le_refl _, Nat.le_refl _⟩ w
set_option maxRecDepth 20000 in
set_option maxHeartbeats 4000000 in
theorem x_X12_lengthOf {G : pm_G} {d : Nat} {post : pm_PT} {h : pm_H} {l0 : Int64} (w :
    Wp G (m_X12_lengthOf, d + 1, 0, 0, post) (0, 0) 2 [.long l0, .null, .int 0] [] h) :
    Wp G (m_X12_lengthOf, d + 1, 0, 0, post) (0, 0) 0 [.long l0, .null, .null] [] h := by
  refine w_iconst (v := 0) dX12_lengthOf_0 rfl ?_
  refine v_istore_n (l' := [.long l0, .null, .int 0]) dX12_lengthOf_1 (Nat.le_of_ble_eq_true rfl) rfl ?_
  exact w
set_option maxRecDepth 20000 in
set_option maxHeartbeats 4000000 in
theorem x_X12_lengthOf_2 {G : pm_G} {d : Nat} {post : pm_PT} {h : pm_H} {l0 : Int64} {l2 : Int32} (w :
    if 63 ≤ l2 then (
      post (some (.int l2)) h
    ) else (
      if (lg_cmp (l0 >>> ((l2 : Int32).toInt64 &&& 63)) (0 : Int64)) ≤ 0 then (
        post (some (.int l2)) h
      ) else (
        Wp G (m_X12_lengthOf, d + 1, 0, 0, post) (0, 0) 2 [.long l0, .null, .int (l2 + 1)] [] h
      )
    )) :
    Wp G (m_X12_lengthOf, d + 1, 0, 0, post) (0, 0) 2 [.long l0, .null, .int l2] [] h := by
  refine w_iload_n dX12_lengthOf_2 rfl ?_
  refine w_bipush (v := 63) dX12_lengthOf_3 rfl ?_
  refine w_ic_ge (tgt := 22) dX12_lengthOf_5 rfl (fun c => ?_) (fun c => ?_)
  · rw [if_pos c] at w
    refine w_iload_n dX12_lengthOf_22 rfl ?_
    exact w_ireturn dX12_lengthOf_23 rfl rfl ⟨Nat.le_refl _, Nat.le_refl _⟩ w
  · rw [if_neg c] at w
    refine w_lload_n dX12_lengthOf_8 rfl ?_
    refine w_iload_n dX12_lengthOf_9 rfl ?_
    refine w_lshr dX12_lengthOf_10 ?_
    refine w_lconst (v := 0) dX12_lengthOf_11 rfl ?_
    refine w_lcmp dX12_lengthOf_12 ?_
    refine w_if_le (tgt := 22) dX12_lengthOf_13 rfl (fun c => ?_) (fun c => ?_)
    · rw [if_pos c] at w
      refine w_iload_n dX12_lengthOf_22 rfl ?_
      exact w_ireturn dX12_lengthOf_23 rfl rfl ⟨Nat.le_refl _, Nat.le_refl _⟩ w
    · rw [if_neg c] at w
      refine v_iinc (l' := [.long l0, .null, .int (l2 + 1)]) (v := l2 + 1) dX12_lengthOf_16 rfl rfl (Nat.le_of_ble_eq_true rfl) rfl ?_
      refine w_goto (tgt := 2) dX12_lengthOf_19 rfl ?_
      exact w
set_option maxRecDepth 20000 in
set_option maxHeartbeats 4000000 in
theorem x_X12_nearest {G : pm_G} {d : Nat} {post : pm_PT} {h : pm_H} {l0 : Int64} {l2 : Int32} {l3 : Int32} (w :
    if (lg_cmp l0 (0 : Int64)) = 0 then (
      post (some (.int 0)) h
    ) else (
      ci G d m_X12_lengthOf [.long l0] h fun r1 h2 =>
      if 0 < (r1 - 24) then (
        ∀ x3 : Int64, x3 = l0 - ((l0 >>> ((r1 - 24 : Int32).toInt64 &&& 63)) <<< ((r1 - 24 : Int32).toInt64 &&& 63)) →
        if 0 < (lg_cmp x3 ((1 : Int64) <<< (((r1 - 24) - 1 : Int32).toInt64 &&& 63))) then (
          Wp G (m_X12_nearest, d + 1, 0, 0, post) (0, 0) 97 [.null, .null, .int l2, .null, .int (r1 - 24), .long (l0 >>> ((r1 - 24 : Int32).toInt64 &&& 63)), .null, .null, .null, .null, .null, .null] [] h2
        ) else (
          if (lg_cmp x3 ((1 : Int64) <<< (((r1 - 24) - 1 : Int32).toInt64 &&& 63))) = 0 then (
            if l3 = 0 then (
              if (lg_cmp ((l0 >>> ((r1 - 24 : Int32).toInt64 &&& 63)) &&& (1 : Int64)) (1 : Int64)) = 0 then (
                Wp G (m_X12_nearest, d + 1, 0, 0, post) (0, 0) 97 [.null, .null, .int l2, .null, .int (r1 - 24), .long (l0 >>> ((r1 - 24 : Int32).toInt64 &&& 63)), .null, .null, .null, .null, .null, .null] [] h2
              ) else (
                Wp G (m_X12_nearest, d + 1, 0, 0, post) (0, 0) 101 [.null, .null, .int l2, .null, .int (r1 - 24), .long (l0 >>> ((r1 - 24 : Int32).toInt64 &&& 63)), .null, .null, .null, .null, .null, .null] [] h2
              )
            ) else (
              Wp G (m_X12_nearest, d + 1, 0, 0, post) (0, 0) 97 [.null, .null, .int l2, .null, .int (r1 - 24), .long (l0 >>> ((r1 - 24 : Int32).toInt64 &&& 63)), .null, .null, .null, .null, .null, .null] [] h2
            )
          ) else (
            Wp G (m_X12_nearest, d + 1, 0, 0, post) (0, 0) 101 [.null, .null, .int l2, .null, .int (r1 - 24), .long (l0 >>> ((r1 - 24 : Int32).toInt64 &&& 63)), .null, .null, .null, .null, .null, .null] [] h2
          )
        )
      ) else (
        post (some (.int ((((l2 + (r1 - 24)) + 150) <<< (23 &&& 31)) + (((l0 <<< ((-(r1 - 24) : Int32).toInt64 &&& 63)) - (8388608 : Int64) : Int64).toInt32)))) h2
      )
    )) :
    Wp G (m_X12_nearest, d + 1, 0, 0, post) (0, 0) 0 [.long l0, .null, .int l2, .int l3, .null, .null, .null, .null, .null, .null, .null, .null] [] h := by
  refine w_lload_n dX12_nearest_0 rfl ?_
  refine w_lconst (v := 0) dX12_nearest_1 rfl ?_
  refine w_lcmp dX12_nearest_2 ?_
  refine w_if_ne (tgt := 8) dX12_nearest_3 rfl (fun c => ?_) (fun c => ?_)
  · rw [if_neg c] at w
    refine w_lload_n dX12_nearest_8 rfl ?_
    refine w_callS (As := [.long l0]) (st := []) dX12_nearest_9 mt_X12_lengthOf g_1381 g_1382 rfl rfl (Nat.le_of_ble_eq_true rfl) (Nat.le_refl _) ⟨Nat.le_refl _, Nat.le_refl _⟩ w ?_
    rintro v h2 ⟨r1, rfl, w⟩
    refine w_bipush (v := 24) dX12_nearest_12 rfl ?_
    refine w_isub dX12_nearest_14 ?_
    refine v_istore (l' := [.long l0, .null, .int l2, .int l3, .int (r1 - 24), .null, .null, .null, .null, .null, .null, .null]) dX12_nearest_15 (Nat.le_of_ble_eq_true rfl) rfl ?_
    refine w_iload dX12_nearest_17 rfl ?_
    refine w_if_gt (tgt := 45) dX12_nearest_19 rfl (fun c => ?_) (fun c => ?_)
    · rw [if_pos c] at w
      refine w_lload_n dX12_nearest_45 rfl ?_
      refine w_iload dX12_nearest_46 rfl ?_
      refine w_lshr dX12_nearest_48 ?_
      refine v_lstore (l' := [.long l0, .null, .int l2, .int l3, .int (r1 - 24), .long (l0 >>> ((r1 - 24 : Int32).toInt64 &&& 63)), .null, .null, .null, .null, .null, .null]) dX12_nearest_49 (Nat.le_of_ble_eq_true rfl) rfl ?_
      refine w_lload_n dX12_nearest_51 rfl ?_
      refine w_lload dX12_nearest_52 rfl ?_
      refine w_iload dX12_nearest_54 rfl ?_
      refine w_lshl dX12_nearest_56 ?_
      refine w_lsub dX12_nearest_57 ?_
      obtain ⟨x3, qx3⟩ : ∃ y : Int64, y = l0 - ((l0 >>> ((r1 - 24 : Int32).toInt64 &&& 63)) <<< ((r1 - 24 : Int32).toInt64 &&& 63)) := ⟨_, rfl⟩
      have w := w x3 qx3
      rw [← qx3]
      refine v_lstore (l' := [.long l0, .null, .int l2, .int l3, .int (r1 - 24), .long (l0 >>> ((r1 - 24 : Int32).toInt64 &&& 63)), .null, .long x3, .null, .null, .null, .null]) dX12_nearest_58 (Nat.le_of_ble_eq_true rfl) rfl ?_
      refine w_lconst (v := 1) dX12_nearest_60 rfl ?_
      refine w_iload dX12_nearest_61 rfl ?_
      refine w_iconst (v := 1) dX12_nearest_63 rfl ?_
      refine w_isub dX12_nearest_64 ?_
      refine w_lshl dX12_nearest_65 ?_
      refine v_lstore (l' := [.long l0, .null, .int l2, .int l3, .int (r1 - 24), .long (l0 >>> ((r1 - 24 : Int32).toInt64 &&& 63)), .null, .long x3, .null, .long ((1 : Int64) <<< (((r1 - 24) - 1 : Int32).toInt64 &&& 63)), .null, .null]) dX12_nearest_66 (Nat.le_of_ble_eq_true rfl) rfl ?_
      refine w_lload dX12_nearest_68 rfl ?_
      refine w_lload dX12_nearest_70 rfl ?_
      refine w_lcmp dX12_nearest_72 ?_
      refine w_if_gt (tgt := 97) dX12_nearest_73 rfl (fun c => ?_) (fun c => ?_)
      · rw [if_pos c] at w
        exact w_drop (l' := [.null, .null, .int l2, .null, .int (r1 - 24), .long (l0 >>> ((r1 - 24 : Int32).toInt64 &&& 63)), .null, .null, .null, .null, .null, .null]) ⟨Or.inl rfl, Or.inl rfl, Or.inr rfl, Or.inl rfl, Or.inr rfl, Or.inr rfl, Or.inl rfl, Or.inl rfl, Or.inl rfl, Or.inl rfl, Or.inl rfl, Or.inl rfl, trivial⟩ w
      · rw [if_neg c] at w
        refine w_lload dX12_nearest_76 rfl ?_
        refine w_lload dX12_nearest_78 rfl ?_
        refine w_lcmp dX12_nearest_80 ?_
        refine w_if_ne (tgt := 101) dX12_nearest_81 rfl (fun c => ?_) (fun c => ?_)
        · rw [if_neg c] at w
          exact w_drop (l' := [.null, .null, .int l2, .null, .int (r1 - 24), .long (l0 >>> ((r1 - 24 : Int32).toInt64 &&& 63)), .null, .null, .null, .null, .null, .null]) ⟨Or.inl rfl, Or.inl rfl, Or.inr rfl, Or.inl rfl, Or.inr rfl, Or.inr rfl, Or.inl rfl, Or.inl rfl, Or.inl rfl, Or.inl rfl, Or.inl rfl, Or.inl rfl, trivial⟩ w
        · rw [if_pos c] at w
          refine w_iload_n dX12_nearest_84 rfl ?_
          refine w_if_ne (tgt := 97) dX12_nearest_85 rfl (fun c => ?_) (fun c => ?_)
          · rw [if_neg c] at w
            exact w_drop (l' := [.null, .null, .int l2, .null, .int (r1 - 24), .long (l0 >>> ((r1 - 24 : Int32).toInt64 &&& 63)), .null, .null, .null, .null, .null, .null]) ⟨Or.inl rfl, Or.inl rfl, Or.inr rfl, Or.inl rfl, Or.inr rfl, Or.inr rfl, Or.inl rfl, Or.inl rfl, Or.inl rfl, Or.inl rfl, Or.inl rfl, Or.inl rfl, trivial⟩ w
          · rw [if_pos c] at w
            refine w_lload dX12_nearest_88 rfl ?_
            refine w_lconst (v := 1) dX12_nearest_90 rfl ?_
            refine w_land dX12_nearest_91 ?_
            refine w_lconst (v := 1) dX12_nearest_92 rfl ?_
            refine w_lcmp dX12_nearest_93 ?_
            refine w_if_ne (tgt := 101) dX12_nearest_94 rfl (fun c => ?_) (fun c => ?_)
            · rw [if_neg c] at w
              exact w_drop (l' := [.null, .null, .int l2, .null, .int (r1 - 24), .long (l0 >>> ((r1 - 24 : Int32).toInt64 &&& 63)), .null, .null, .null, .null, .null, .null]) ⟨Or.inl rfl, Or.inl rfl, Or.inr rfl, Or.inl rfl, Or.inr rfl, Or.inr rfl, Or.inl rfl, Or.inl rfl, Or.inl rfl, Or.inl rfl, Or.inl rfl, Or.inl rfl, trivial⟩ w
            · rw [if_pos c] at w
              exact w_drop (l' := [.null, .null, .int l2, .null, .int (r1 - 24), .long (l0 >>> ((r1 - 24 : Int32).toInt64 &&& 63)), .null, .null, .null, .null, .null, .null]) ⟨Or.inl rfl, Or.inl rfl, Or.inr rfl, Or.inl rfl, Or.inr rfl, Or.inr rfl, Or.inl rfl, Or.inl rfl, Or.inl rfl, Or.inl rfl, Or.inl rfl, Or.inl rfl, trivial⟩ w
    · rw [if_neg c] at w
      refine w_iload_n dX12_nearest_22 rfl ?_
      refine w_iload dX12_nearest_23 rfl ?_
      refine w_iadd dX12_nearest_25 ?_
      refine w_sipush (v := 150) dX12_nearest_26 rfl ?_
      refine w_iadd dX12_nearest_29 ?_
      refine w_bipush (v := 23) dX12_nearest_30 rfl ?_
      refine w_ishl dX12_nearest_32 ?_
      refine w_lload_n dX12_nearest_33 rfl ?_
      refine w_iload dX12_nearest_34 rfl ?_
      refine w_ineg dX12_nearest_36 ?_
      refine w_lshl dX12_nearest_37 ?_
      refine w_ldc2 (v := (8388608 : Int64)) dX12_nearest_38 g_1384 ?_
      refine w_lsub dX12_nearest_41 ?_
      refine w_l2i dX12_nearest_42 ?_
      refine w_iadd dX12_nearest_43 ?_
      exact w_ireturn dX12_nearest_44 rfl rfl ⟨Nat.le_refl _, Nat.le_refl _⟩ w
  · rw [if_pos c] at w
    refine w_iconst (v := 0) dX12_nearest_6 rfl ?_
    exact w_ireturn dX12_nearest_7 rfl rfl ⟨Nat.le_refl _, Nat.le_refl _⟩ w
set_option maxRecDepth 20000 in
set_option maxHeartbeats 4000000 in
theorem x_X12_nearest_97 {G : pm_G} {d : Nat} {post : pm_PT} {h : pm_H} {l2 : Int32} {l4 : Int32} {l5 : Int64} (w :
    post (some (.int (((((l2 + l4) + 150) <<< (23 &&& 31)) + ((l5 - (8388608 : Int64) : Int64).toInt32)) + 1))) h) :
    Wp G (m_X12_nearest, d + 1, 0, 0, post) (0, 0) 97 [.null, .null, .int l2, .null, .int l4, .long l5, .null, .null, .null, .null, .null, .null] [] h := by
  refine w_iconst (v := 1) dX12_nearest_97 rfl ?_
  refine w_goto (tgt := 102) dX12_nearest_98 rfl ?_
  refine v_istore (l' := [.null, .null, .int l2, .null, .int l4, .long l5, .null, .null, .null, .null, .null, .int 1]) dX12_nearest_102 (Nat.le_of_ble_eq_true rfl) rfl ?_
  refine w_iload_n dX12_nearest_104 rfl ?_
  refine w_iload dX12_nearest_105 rfl ?_
  refine w_iadd dX12_nearest_107 ?_
  refine w_sipush (v := 150) dX12_nearest_108 rfl ?_
  refine w_iadd dX12_nearest_111 ?_
  refine w_bipush (v := 23) dX12_nearest_112 rfl ?_
  refine w_ishl dX12_nearest_114 ?_
  refine w_lload dX12_nearest_115 rfl ?_
  refine w_ldc2 (v := (8388608 : Int64)) dX12_nearest_117 g_1384 ?_
  refine w_lsub dX12_nearest_120 ?_
  refine w_l2i dX12_nearest_121 ?_
  refine w_iadd dX12_nearest_122 ?_
  refine w_iload dX12_nearest_123 rfl ?_
  refine w_if_eq (tgt := 132) dX12_nearest_125 rfl (fun c => ?_) (fun c => ?_)
  · exact absurd c (by decide)
  · refine w_iconst (v := 1) dX12_nearest_128 rfl ?_
    refine w_goto (tgt := 133) dX12_nearest_129 rfl ?_
    refine w_iadd dX12_nearest_133 ?_
    exact w_ireturn dX12_nearest_134 rfl rfl ⟨Nat.le_refl _, Nat.le_refl _⟩ w
set_option maxRecDepth 20000 in
set_option maxHeartbeats 4000000 in
theorem x_X12_nearest_101 {G : pm_G} {d : Nat} {post : pm_PT} {h : pm_H} {l2 : Int32} {l4 : Int32} {l5 : Int64} (w :
    post (some (.int (((((l2 + l4) + 150) <<< (23 &&& 31)) + ((l5 - (8388608 : Int64) : Int64).toInt32)) + 0))) h) :
    Wp G (m_X12_nearest, d + 1, 0, 0, post) (0, 0) 101 [.null, .null, .int l2, .null, .int l4, .long l5, .null, .null, .null, .null, .null, .null] [] h := by
  refine w_iconst (v := 0) dX12_nearest_101 rfl ?_
  refine v_istore (l' := [.null, .null, .int l2, .null, .int l4, .long l5, .null, .null, .null, .null, .null, .int 0]) dX12_nearest_102 (Nat.le_of_ble_eq_true rfl) rfl ?_
  refine w_iload_n dX12_nearest_104 rfl ?_
  refine w_iload dX12_nearest_105 rfl ?_
  refine w_iadd dX12_nearest_107 ?_
  refine w_sipush (v := 150) dX12_nearest_108 rfl ?_
  refine w_iadd dX12_nearest_111 ?_
  refine w_bipush (v := 23) dX12_nearest_112 rfl ?_
  refine w_ishl dX12_nearest_114 ?_
  refine w_lload dX12_nearest_115 rfl ?_
  refine w_ldc2 (v := (8388608 : Int64)) dX12_nearest_117 g_1384 ?_
  refine w_lsub dX12_nearest_120 ?_
  refine w_l2i dX12_nearest_121 ?_
  refine w_iadd dX12_nearest_122 ?_
  refine w_iload dX12_nearest_123 rfl ?_
  refine w_if_eq (tgt := 132) dX12_nearest_125 rfl (fun c => ?_) (fun c => ?_)
  · refine w_iconst (v := 0) dX12_nearest_132 rfl ?_
    refine w_iadd dX12_nearest_133 ?_
    exact w_ireturn dX12_nearest_134 rfl rfl ⟨Nat.le_refl _, Nat.le_refl _⟩ w
  · exact absurd c (by decide)
set_option maxRecDepth 20000 in
set_option maxHeartbeats 4000000 in
theorem x_X12_digits {G : pm_G} {d : Nat} {post : pm_PT} {h : pm_H} {l0 : Int32} (w :
    if l0 = 0 then (
      post (some (.long (0 : Int64))) h
    ) else (
      post (some (.long (((l0 - l0 / 8388608 * 8388608 : Int32).toInt64) + (8388608 : Int64)))) h
    )) :
    Wp G (m_X12_digits, d + 1, 0, 0, post) (0, 0) 0 [.int l0] [] h := by
  refine w_iload_n dX12_digits_0 rfl ?_
  refine w_if_ne (tgt := 8) dX12_digits_1 rfl (fun c => ?_) (fun c => ?_)
  · rw [if_neg c] at w
    refine w_iload_n dX12_digits_8 rfl ?_
    refine w_ldc_i (v := 8388608) dX12_digits_9 g_1391 ?_
    refine w_irem dX12_digits_11 (by decide) ?_
    refine w_i2l dX12_digits_12 ?_
    refine w_ldc2 (v := (8388608 : Int64)) dX12_digits_13 g_1384 ?_
    refine w_ladd dX12_digits_16 ?_
    exact w_lreturn dX12_digits_17 rfl ⟨Nat.le_refl _, Nat.le_refl _⟩ w
  · rw [if_pos c] at w
    refine w_lconst (v := 0) dX12_digits_4 rfl ?_
    refine w_goto (tgt := 17) dX12_digits_5 rfl ?_
    exact w_lreturn dX12_digits_17 rfl ⟨Nat.le_refl _, Nat.le_refl _⟩ w
set_option maxRecDepth 20000 in
set_option maxHeartbeats 4000000 in
theorem x_X12_place {G : pm_G} {d : Nat} {post : pm_PT} {h : pm_H} {l0 : Int32} (w :
    post (some (.int ((l0 >>> (23 &&& 31)) - 150))) h) :
    Wp G (m_X12_place, d + 1, 0, 0, post) (0, 0) 0 [.int l0] [] h := by
  refine w_iload_n dX12_place_0 rfl ?_
  refine w_bipush (v := 23) dX12_place_1 rfl ?_
  refine w_ishr dX12_place_3 ?_
  refine w_sipush (v := 150) dX12_place_4 rfl ?_
  refine w_isub dX12_place_7 ?_
  exact w_ireturn dX12_place_8 rfl rfl ⟨Nat.le_refl _, Nat.le_refl _⟩ w
set_option maxRecDepth 20000 in
set_option maxHeartbeats 4000000 in
theorem x_X12_ofWhole {G : pm_G} {d : Nat} {post : pm_PT} {h : pm_H} {l0 : Int32} (w :
    ci G d m_X12_nearest [.long ((l0 : Int32).toInt64), .int 0, .int 0] h fun r1 h2 =>
    post (some (.int r1)) h2) :
    Wp G (m_X12_ofWhole, d + 1, 0, 0, post) (0, 0) 0 [.int l0] [] h := by
  refine w_iload_n dX12_ofWhole_0 rfl ?_
  refine w_i2l dX12_ofWhole_1 ?_
  refine w_iconst (v := 0) dX12_ofWhole_2 rfl ?_
  refine w_iconst (v := 0) dX12_ofWhole_3 rfl ?_
  refine w_callS (As := [.long ((l0 : Int32).toInt64), .int 0, .int 0]) (st := []) dX12_ofWhole_4 mt_X12_nearest g_1378 g_1379 rfl rfl (Nat.le_of_ble_eq_true rfl) (Nat.le_refl _) ⟨Nat.le_refl _, Nat.le_refl _⟩ w ?_
  rintro v h2 ⟨r1, rfl, w⟩
  exact w_ireturn dX12_ofWhole_7 rfl rfl ⟨Nat.le_refl _, Nat.le_refl _⟩ w
set_option maxRecDepth 20000 in
set_option maxHeartbeats 4000000 in
theorem x_X12_adds {G : pm_G} {d : Nat} {post : pm_PT} {h : pm_H} {l0 : Int32} {l1 : Int32} (w :
    if l0 ≤ l1 then (
      if l0 ≤ l1 then (
        ci G d m_X12_place [.int l1] h fun r1 h2 =>
        ci G d m_X12_place [.int l0] h2 fun r3 h4 =>
        if l0 = 0 then (
          post (some (.int l1)) h4
        ) else (
          if (r1 - r3) ≤ 36 then (
            cl G d m_X12_digits [.int l1] h4 fun r5 h6 =>
            cl G d m_X12_digits [.int l0] h6 fun r7 h8 =>
            ci G d m_X12_place [.int l0] h8 fun r9 h10 =>
            ci G d m_X12_nearest [.long ((r5 <<< ((r1 - r3 : Int32).toInt64 &&& 63)) + r7), .int r9, .int 0] h10 fun r11 h12 =>
            post (some (.int r11)) h12
          ) else (
            post (some (.int l1)) h4
          )
        )
      ) else (
        ci G d m_X12_place [.int l1] h fun r13 h14 =>
        ci G d m_X12_place [.int l1] h14 fun r15 h16 =>
        if l1 = 0 then (
          post (some (.int l1)) h16
        ) else (
          if (r13 - r15) ≤ 36 then (
            cl G d m_X12_digits [.int l1] h16 fun r17 h18 =>
            cl G d m_X12_digits [.int l1] h18 fun r19 h20 =>
            ci G d m_X12_place [.int l1] h20 fun r21 h22 =>
            ci G d m_X12_nearest [.long ((r17 <<< ((r13 - r15 : Int32).toInt64 &&& 63)) + r19), .int r21, .int 0] h22 fun r23 h24 =>
            post (some (.int r23)) h24
          ) else (
            post (some (.int l1)) h16
          )
        )
      )
    ) else (
      if l0 ≤ l1 then (
        ci G d m_X12_place [.int l0] h fun r25 h26 =>
        ci G d m_X12_place [.int l0] h26 fun r27 h28 =>
        if l0 = 0 then (
          post (some (.int l0)) h28
        ) else (
          if (r25 - r27) ≤ 36 then (
            cl G d m_X12_digits [.int l0] h28 fun r29 h30 =>
            cl G d m_X12_digits [.int l0] h30 fun r31 h32 =>
            ci G d m_X12_place [.int l0] h32 fun r33 h34 =>
            ci G d m_X12_nearest [.long ((r29 <<< ((r25 - r27 : Int32).toInt64 &&& 63)) + r31), .int r33, .int 0] h34 fun r35 h36 =>
            post (some (.int r35)) h36
          ) else (
            post (some (.int l0)) h28
          )
        )
      ) else (
        ci G d m_X12_place [.int l0] h fun r37 h38 =>
        ci G d m_X12_place [.int l1] h38 fun r39 h40 =>
        if l1 = 0 then (
          post (some (.int l0)) h40
        ) else (
          if (r37 - r39) ≤ 36 then (
            cl G d m_X12_digits [.int l0] h40 fun r41 h42 =>
            cl G d m_X12_digits [.int l1] h42 fun r43 h44 =>
            ci G d m_X12_place [.int l1] h44 fun r45 h46 =>
            ci G d m_X12_nearest [.long ((r41 <<< ((r37 - r39 : Int32).toInt64 &&& 63)) + r43), .int r45, .int 0] h46 fun r47 h48 =>
            post (some (.int r47)) h48
          ) else (
            post (some (.int l0)) h40
          )
        )
      )
    )) :
    Wp G (m_X12_adds, d + 1, 0, 0, post) (0, 0) 0 [.int l0, .int l1, .null, .null, .null] [] h := by
  refine w_iload_n dX12_adds_0 rfl ?_
  refine w_iload_n dX12_adds_1 rfl ?_
  refine w_ic_le (tgt := 9) dX12_adds_2 rfl (fun c => ?_) (fun c => ?_)
  · rw [if_pos c] at w
    refine w_iload_n dX12_adds_9 rfl ?_
    refine v_istore_n (l' := [.int l0, .int l1, .int l1, .null, .null]) dX12_adds_10 (Nat.le_of_ble_eq_true rfl) rfl ?_
    refine w_iload_n dX12_adds_11 rfl ?_
    refine w_iload_n dX12_adds_12 rfl ?_
    refine w_ic_le (tgt := 20) dX12_adds_13 rfl (fun c => ?_) (fun c => ?_)
    · rw [if_pos c] at w
      refine w_iload_n dX12_adds_20 rfl ?_
      refine v_istore_n (l' := [.int l0, .int l1, .int l1, .int l0, .null]) dX12_adds_21 (Nat.le_of_ble_eq_true rfl) rfl ?_
      refine w_iload_n dX12_adds_22 rfl ?_
      refine w_callS (As := [.int l1]) (st := []) dX12_adds_23 mt_X12_place g_1392 g_1393 rfl rfl (Nat.le_of_ble_eq_true rfl) (Nat.le_refl _) ⟨Nat.le_refl _, Nat.le_refl _⟩ w ?_
      rintro v h2 ⟨r1, rfl, w⟩
      refine w_iload_n dX12_adds_26 rfl ?_
      refine w_callS (As := [.int l0]) (st := [.int r1]) dX12_adds_27 mt_X12_place g_1392 g_1393 rfl rfl (Nat.le_of_ble_eq_true rfl) (Nat.le_refl _) ⟨Nat.le_refl _, Nat.le_refl _⟩ w ?_
      rintro v h4 ⟨r3, rfl, w⟩
      refine w_isub dX12_adds_30 ?_
      refine v_istore (l' := [.int l0, .int l1, .int l1, .int l0, .int (r1 - r3)]) dX12_adds_31 (Nat.le_of_ble_eq_true rfl) rfl ?_
      refine w_iload_n dX12_adds_33 rfl ?_
      refine w_if_eq (tgt := 44) dX12_adds_34 rfl (fun c => ?_) (fun c => ?_)
      · rw [if_pos c] at w
        refine w_iload_n dX12_adds_44 rfl ?_
        exact w_ireturn dX12_adds_45 rfl rfl ⟨Nat.le_refl _, Nat.le_refl _⟩ w
      · rw [if_neg c] at w
        refine w_iload dX12_adds_37 rfl ?_
        refine w_bipush (v := 36) dX12_adds_39 rfl ?_
        refine w_ic_le (tgt := 46) dX12_adds_41 rfl (fun c => ?_) (fun c => ?_)
        · rw [if_pos c] at w
          refine w_iload_n dX12_adds_46 rfl ?_
          refine w_callS (As := [.int l1]) (st := []) dX12_adds_47 mt_X12_digits g_1388 g_1389 rfl rfl (Nat.le_of_ble_eq_true rfl) (Nat.le_refl _) ⟨Nat.le_refl _, Nat.le_refl _⟩ w ?_
          rintro v h6 ⟨r5, rfl, w⟩
          refine w_iload dX12_adds_50 rfl ?_
          refine w_lshl dX12_adds_52 ?_
          refine w_iload_n dX12_adds_53 rfl ?_
          refine w_callS (As := [.int l0]) (st := [.long (r5 <<< ((r1 - r3 : Int32).toInt64 &&& 63))]) dX12_adds_54 mt_X12_digits g_1388 g_1389 rfl rfl (Nat.le_of_ble_eq_true rfl) (Nat.le_refl _) ⟨Nat.le_refl _, Nat.le_refl _⟩ w ?_
          rintro v h8 ⟨r7, rfl, w⟩
          refine w_ladd dX12_adds_57 ?_
          refine w_iload_n dX12_adds_58 rfl ?_
          refine w_callS (As := [.int l0]) (st := [.long ((r5 <<< ((r1 - r3 : Int32).toInt64 &&& 63)) + r7)]) dX12_adds_59 mt_X12_place g_1392 g_1393 rfl rfl (Nat.le_of_ble_eq_true rfl) (Nat.le_refl _) ⟨Nat.le_refl _, Nat.le_refl _⟩ w ?_
          rintro v h10 ⟨r9, rfl, w⟩
          refine w_iconst (v := 0) dX12_adds_62 rfl ?_
          refine w_callS (As := [.long ((r5 <<< ((r1 - r3 : Int32).toInt64 &&& 63)) + r7), .int r9, .int 0]) (st := []) dX12_adds_63 mt_X12_nearest g_1378 g_1379 rfl rfl (Nat.le_of_ble_eq_true rfl) (Nat.le_refl _) ⟨Nat.le_refl _, Nat.le_refl _⟩ w ?_
          rintro v h12 ⟨r11, rfl, w⟩
          exact w_ireturn dX12_adds_66 rfl rfl ⟨Nat.le_refl _, Nat.le_refl _⟩ w
        · rw [if_neg c] at w
          refine w_iload_n dX12_adds_44 rfl ?_
          exact w_ireturn dX12_adds_45 rfl rfl ⟨Nat.le_refl _, Nat.le_refl _⟩ w
    · rw [if_neg c] at w
      refine w_iload_n dX12_adds_16 rfl ?_
      refine w_goto (tgt := 21) dX12_adds_17 rfl ?_
      refine v_istore_n (l' := [.int l0, .int l1, .int l1, .int l1, .null]) dX12_adds_21 (Nat.le_of_ble_eq_true rfl) rfl ?_
      refine w_iload_n dX12_adds_22 rfl ?_
      refine w_callS (As := [.int l1]) (st := []) dX12_adds_23 mt_X12_place g_1392 g_1393 rfl rfl (Nat.le_of_ble_eq_true rfl) (Nat.le_refl _) ⟨Nat.le_refl _, Nat.le_refl _⟩ w ?_
      rintro v h14 ⟨r13, rfl, w⟩
      refine w_iload_n dX12_adds_26 rfl ?_
      refine w_callS (As := [.int l1]) (st := [.int r13]) dX12_adds_27 mt_X12_place g_1392 g_1393 rfl rfl (Nat.le_of_ble_eq_true rfl) (Nat.le_refl _) ⟨Nat.le_refl _, Nat.le_refl _⟩ w ?_
      rintro v h16 ⟨r15, rfl, w⟩
      refine w_isub dX12_adds_30 ?_
      refine v_istore (l' := [.int l0, .int l1, .int l1, .int l1, .int (r13 - r15)]) dX12_adds_31 (Nat.le_of_ble_eq_true rfl) rfl ?_
      refine w_iload_n dX12_adds_33 rfl ?_
      refine w_if_eq (tgt := 44) dX12_adds_34 rfl (fun c => ?_) (fun c => ?_)
      · rw [if_pos c] at w
        refine w_iload_n dX12_adds_44 rfl ?_
        exact w_ireturn dX12_adds_45 rfl rfl ⟨Nat.le_refl _, Nat.le_refl _⟩ w
      · rw [if_neg c] at w
        refine w_iload dX12_adds_37 rfl ?_
        refine w_bipush (v := 36) dX12_adds_39 rfl ?_
        refine w_ic_le (tgt := 46) dX12_adds_41 rfl (fun c => ?_) (fun c => ?_)
        · rw [if_pos c] at w
          refine w_iload_n dX12_adds_46 rfl ?_
          refine w_callS (As := [.int l1]) (st := []) dX12_adds_47 mt_X12_digits g_1388 g_1389 rfl rfl (Nat.le_of_ble_eq_true rfl) (Nat.le_refl _) ⟨Nat.le_refl _, Nat.le_refl _⟩ w ?_
          rintro v h18 ⟨r17, rfl, w⟩
          refine w_iload dX12_adds_50 rfl ?_
          refine w_lshl dX12_adds_52 ?_
          refine w_iload_n dX12_adds_53 rfl ?_
          refine w_callS (As := [.int l1]) (st := [.long (r17 <<< ((r13 - r15 : Int32).toInt64 &&& 63))]) dX12_adds_54 mt_X12_digits g_1388 g_1389 rfl rfl (Nat.le_of_ble_eq_true rfl) (Nat.le_refl _) ⟨Nat.le_refl _, Nat.le_refl _⟩ w ?_
          rintro v h20 ⟨r19, rfl, w⟩
          refine w_ladd dX12_adds_57 ?_
          refine w_iload_n dX12_adds_58 rfl ?_
          refine w_callS (As := [.int l1]) (st := [.long ((r17 <<< ((r13 - r15 : Int32).toInt64 &&& 63)) + r19)]) dX12_adds_59 mt_X12_place g_1392 g_1393 rfl rfl (Nat.le_of_ble_eq_true rfl) (Nat.le_refl _) ⟨Nat.le_refl _, Nat.le_refl _⟩ w ?_
          rintro v h22 ⟨r21, rfl, w⟩
          refine w_iconst (v := 0) dX12_adds_62 rfl ?_
          refine w_callS (As := [.long ((r17 <<< ((r13 - r15 : Int32).toInt64 &&& 63)) + r19), .int r21, .int 0]) (st := []) dX12_adds_63 mt_X12_nearest g_1378 g_1379 rfl rfl (Nat.le_of_ble_eq_true rfl) (Nat.le_refl _) ⟨Nat.le_refl _, Nat.le_refl _⟩ w ?_
          rintro v h24 ⟨r23, rfl, w⟩
          exact w_ireturn dX12_adds_66 rfl rfl ⟨Nat.le_refl _, Nat.le_refl _⟩ w
        · rw [if_neg c] at w
          refine w_iload_n dX12_adds_44 rfl ?_
          exact w_ireturn dX12_adds_45 rfl rfl ⟨Nat.le_refl _, Nat.le_refl _⟩ w
  · rw [if_neg c] at w
    refine w_iload_n dX12_adds_5 rfl ?_
    refine w_goto (tgt := 10) dX12_adds_6 rfl ?_
    refine v_istore_n (l' := [.int l0, .int l1, .int l0, .null, .null]) dX12_adds_10 (Nat.le_of_ble_eq_true rfl) rfl ?_
    refine w_iload_n dX12_adds_11 rfl ?_
    refine w_iload_n dX12_adds_12 rfl ?_
    refine w_ic_le (tgt := 20) dX12_adds_13 rfl (fun c => ?_) (fun c => ?_)
    · rw [if_pos c] at w
      refine w_iload_n dX12_adds_20 rfl ?_
      refine v_istore_n (l' := [.int l0, .int l1, .int l0, .int l0, .null]) dX12_adds_21 (Nat.le_of_ble_eq_true rfl) rfl ?_
      refine w_iload_n dX12_adds_22 rfl ?_
      refine w_callS (As := [.int l0]) (st := []) dX12_adds_23 mt_X12_place g_1392 g_1393 rfl rfl (Nat.le_of_ble_eq_true rfl) (Nat.le_refl _) ⟨Nat.le_refl _, Nat.le_refl _⟩ w ?_
      rintro v h26 ⟨r25, rfl, w⟩
      refine w_iload_n dX12_adds_26 rfl ?_
      refine w_callS (As := [.int l0]) (st := [.int r25]) dX12_adds_27 mt_X12_place g_1392 g_1393 rfl rfl (Nat.le_of_ble_eq_true rfl) (Nat.le_refl _) ⟨Nat.le_refl _, Nat.le_refl _⟩ w ?_
      rintro v h28 ⟨r27, rfl, w⟩
      refine w_isub dX12_adds_30 ?_
      refine v_istore (l' := [.int l0, .int l1, .int l0, .int l0, .int (r25 - r27)]) dX12_adds_31 (Nat.le_of_ble_eq_true rfl) rfl ?_
      refine w_iload_n dX12_adds_33 rfl ?_
      refine w_if_eq (tgt := 44) dX12_adds_34 rfl (fun c => ?_) (fun c => ?_)
      · rw [if_pos c] at w
        refine w_iload_n dX12_adds_44 rfl ?_
        exact w_ireturn dX12_adds_45 rfl rfl ⟨Nat.le_refl _, Nat.le_refl _⟩ w
      · rw [if_neg c] at w
        refine w_iload dX12_adds_37 rfl ?_
        refine w_bipush (v := 36) dX12_adds_39 rfl ?_
        refine w_ic_le (tgt := 46) dX12_adds_41 rfl (fun c => ?_) (fun c => ?_)
        · rw [if_pos c] at w
          refine w_iload_n dX12_adds_46 rfl ?_
          refine w_callS (As := [.int l0]) (st := []) dX12_adds_47 mt_X12_digits g_1388 g_1389 rfl rfl (Nat.le_of_ble_eq_true rfl) (Nat.le_refl _) ⟨Nat.le_refl _, Nat.le_refl _⟩ w ?_
          rintro v h30 ⟨r29, rfl, w⟩
          refine w_iload dX12_adds_50 rfl ?_
          refine w_lshl dX12_adds_52 ?_
          refine w_iload_n dX12_adds_53 rfl ?_
          refine w_callS (As := [.int l0]) (st := [.long (r29 <<< ((r25 - r27 : Int32).toInt64 &&& 63))]) dX12_adds_54 mt_X12_digits g_1388 g_1389 rfl rfl (Nat.le_of_ble_eq_true rfl) (Nat.le_refl _) ⟨Nat.le_refl _, Nat.le_refl _⟩ w ?_
          rintro v h32 ⟨r31, rfl, w⟩
          refine w_ladd dX12_adds_57 ?_
          refine w_iload_n dX12_adds_58 rfl ?_
          refine w_callS (As := [.int l0]) (st := [.long ((r29 <<< ((r25 - r27 : Int32).toInt64 &&& 63)) + r31)]) dX12_adds_59 mt_X12_place g_1392 g_1393 rfl rfl (Nat.le_of_ble_eq_true rfl) (Nat.le_refl _) ⟨Nat.le_refl _, Nat.le_refl _⟩ w ?_
          rintro v h34 ⟨r33, rfl, w⟩
          refine w_iconst (v := 0) dX12_adds_62 rfl ?_
          refine w_callS (As := [.long ((r29 <<< ((r25 - r27 : Int32).toInt64 &&& 63)) + r31), .int r33, .int 0]) (st := []) dX12_adds_63 mt_X12_nearest g_1378 g_1379 rfl rfl (Nat.le_of_ble_eq_true rfl) (Nat.le_refl _) ⟨Nat.le_refl _, Nat.le_refl _⟩ w ?_
          rintro v h36 ⟨r35, rfl, w⟩
          exact w_ireturn dX12_adds_66 rfl rfl ⟨Nat.le_refl _, Nat.le_refl _⟩ w
        · rw [if_neg c] at w
          refine w_iload_n dX12_adds_44 rfl ?_
          exact w_ireturn dX12_adds_45 rfl rfl ⟨Nat.le_refl _, Nat.le_refl _⟩ w
    · rw [if_neg c] at w
      refine w_iload_n dX12_adds_16 rfl ?_
      refine w_goto (tgt := 21) dX12_adds_17 rfl ?_
      refine v_istore_n (l' := [.int l0, .int l1, .int l0, .int l1, .null]) dX12_adds_21 (Nat.le_of_ble_eq_true rfl) rfl ?_
      refine w_iload_n dX12_adds_22 rfl ?_
      refine w_callS (As := [.int l0]) (st := []) dX12_adds_23 mt_X12_place g_1392 g_1393 rfl rfl (Nat.le_of_ble_eq_true rfl) (Nat.le_refl _) ⟨Nat.le_refl _, Nat.le_refl _⟩ w ?_
      rintro v h38 ⟨r37, rfl, w⟩
      refine w_iload_n dX12_adds_26 rfl ?_
      refine w_callS (As := [.int l1]) (st := [.int r37]) dX12_adds_27 mt_X12_place g_1392 g_1393 rfl rfl (Nat.le_of_ble_eq_true rfl) (Nat.le_refl _) ⟨Nat.le_refl _, Nat.le_refl _⟩ w ?_
      rintro v h40 ⟨r39, rfl, w⟩
      refine w_isub dX12_adds_30 ?_
      refine v_istore (l' := [.int l0, .int l1, .int l0, .int l1, .int (r37 - r39)]) dX12_adds_31 (Nat.le_of_ble_eq_true rfl) rfl ?_
      refine w_iload_n dX12_adds_33 rfl ?_
      refine w_if_eq (tgt := 44) dX12_adds_34 rfl (fun c => ?_) (fun c => ?_)
      · rw [if_pos c] at w
        refine w_iload_n dX12_adds_44 rfl ?_
        exact w_ireturn dX12_adds_45 rfl rfl ⟨Nat.le_refl _, Nat.le_refl _⟩ w
      · rw [if_neg c] at w
        refine w_iload dX12_adds_37 rfl ?_
        refine w_bipush (v := 36) dX12_adds_39 rfl ?_
        refine w_ic_le (tgt := 46) dX12_adds_41 rfl (fun c => ?_) (fun c => ?_)
        · rw [if_pos c] at w
          refine w_iload_n dX12_adds_46 rfl ?_
          refine w_callS (As := [.int l0]) (st := []) dX12_adds_47 mt_X12_digits g_1388 g_1389 rfl rfl (Nat.le_of_ble_eq_true rfl) (Nat.le_refl _) ⟨Nat.le_refl _, Nat.le_refl _⟩ w ?_
          rintro v h42 ⟨r41, rfl, w⟩
          refine w_iload dX12_adds_50 rfl ?_
          refine w_lshl dX12_adds_52 ?_
          refine w_iload_n dX12_adds_53 rfl ?_
          refine w_callS (As := [.int l1]) (st := [.long (r41 <<< ((r37 - r39 : Int32).toInt64 &&& 63))]) dX12_adds_54 mt_X12_digits g_1388 g_1389 rfl rfl (Nat.le_of_ble_eq_true rfl) (Nat.le_refl _) ⟨Nat.le_refl _, Nat.le_refl _⟩ w ?_
          rintro v h44 ⟨r43, rfl, w⟩
          refine w_ladd dX12_adds_57 ?_
          refine w_iload_n dX12_adds_58 rfl ?_
          refine w_callS (As := [.int l1]) (st := [.long ((r41 <<< ((r37 - r39 : Int32).toInt64 &&& 63)) + r43)]) dX12_adds_59 mt_X12_place g_1392 g_1393 rfl rfl (Nat.le_of_ble_eq_true rfl) (Nat.le_refl _) ⟨Nat.le_refl _, Nat.le_refl _⟩ w ?_
          rintro v h46 ⟨r45, rfl, w⟩
          refine w_iconst (v := 0) dX12_adds_62 rfl ?_
          refine w_callS (As := [.long ((r41 <<< ((r37 - r39 : Int32).toInt64 &&& 63)) + r43), .int r45, .int 0]) (st := []) dX12_adds_63 mt_X12_nearest g_1378 g_1379 rfl rfl (Nat.le_of_ble_eq_true rfl) (Nat.le_refl _) ⟨Nat.le_refl _, Nat.le_refl _⟩ w ?_
          rintro v h48 ⟨r47, rfl, w⟩
          exact w_ireturn dX12_adds_66 rfl rfl ⟨Nat.le_refl _, Nat.le_refl _⟩ w
        · rw [if_neg c] at w
          refine w_iload_n dX12_adds_44 rfl ?_
          exact w_ireturn dX12_adds_45 rfl rfl ⟨Nat.le_refl _, Nat.le_refl _⟩ w
set_option maxRecDepth 20000 in
set_option maxHeartbeats 4000000 in
theorem x_X12_lessens {G : pm_G} {d : Nat} {post : pm_PT} {h : pm_H} {l0 : Int32} {l1 : Int32} (w :
    ci G d m_X12_place [.int l0] h fun r1 h2 =>
    ci G d m_X12_place [.int l1] h2 fun r3 h4 =>
    if l1 = 0 then (
      post (some (.int l0)) h4
    ) else (
      if (r1 - r3) ≤ 36 then (
        cl G d m_X12_digits [.int l0] h4 fun r5 h6 =>
        cl G d m_X12_digits [.int l1] h6 fun r7 h8 =>
        ci G d m_X12_place [.int l1] h8 fun r9 h10 =>
        ci G d m_X12_nearest [.long ((r5 <<< ((r1 - r3 : Int32).toInt64 &&& 63)) - r7), .int r9, .int 0] h10 fun r11 h12 =>
        post (some (.int r11)) h12
      ) else (
        post (some (.int l0)) h4
      )
    )) :
    Wp G (m_X12_lessens, d + 1, 0, 0, post) (0, 0) 0 [.int l0, .int l1, .null] [] h := by
  refine w_iload_n dX12_lessens_0 rfl ?_
  refine w_callS (As := [.int l0]) (st := []) dX12_lessens_1 mt_X12_place g_1392 g_1393 rfl rfl (Nat.le_of_ble_eq_true rfl) (Nat.le_refl _) ⟨Nat.le_refl _, Nat.le_refl _⟩ w ?_
  rintro v h2 ⟨r1, rfl, w⟩
  refine w_iload_n dX12_lessens_4 rfl ?_
  refine w_callS (As := [.int l1]) (st := [.int r1]) dX12_lessens_5 mt_X12_place g_1392 g_1393 rfl rfl (Nat.le_of_ble_eq_true rfl) (Nat.le_refl _) ⟨Nat.le_refl _, Nat.le_refl _⟩ w ?_
  rintro v h4 ⟨r3, rfl, w⟩
  refine w_isub dX12_lessens_8 ?_
  refine v_istore_n (l' := [.int l0, .int l1, .int (r1 - r3)]) dX12_lessens_9 (Nat.le_of_ble_eq_true rfl) rfl ?_
  refine w_iload_n dX12_lessens_10 rfl ?_
  refine w_if_eq (tgt := 20) dX12_lessens_11 rfl (fun c => ?_) (fun c => ?_)
  · rw [if_pos c] at w
    refine w_iload_n dX12_lessens_20 rfl ?_
    exact w_ireturn dX12_lessens_21 rfl rfl ⟨Nat.le_refl _, Nat.le_refl _⟩ w
  · rw [if_neg c] at w
    refine w_iload_n dX12_lessens_14 rfl ?_
    refine w_bipush (v := 36) dX12_lessens_15 rfl ?_
    refine w_ic_le (tgt := 22) dX12_lessens_17 rfl (fun c => ?_) (fun c => ?_)
    · rw [if_pos c] at w
      refine w_iload_n dX12_lessens_22 rfl ?_
      refine w_callS (As := [.int l0]) (st := []) dX12_lessens_23 mt_X12_digits g_1388 g_1389 rfl rfl (Nat.le_of_ble_eq_true rfl) (Nat.le_refl _) ⟨Nat.le_refl _, Nat.le_refl _⟩ w ?_
      rintro v h6 ⟨r5, rfl, w⟩
      refine w_iload_n dX12_lessens_26 rfl ?_
      refine w_lshl dX12_lessens_27 ?_
      refine w_iload_n dX12_lessens_28 rfl ?_
      refine w_callS (As := [.int l1]) (st := [.long (r5 <<< ((r1 - r3 : Int32).toInt64 &&& 63))]) dX12_lessens_29 mt_X12_digits g_1388 g_1389 rfl rfl (Nat.le_of_ble_eq_true rfl) (Nat.le_refl _) ⟨Nat.le_refl _, Nat.le_refl _⟩ w ?_
      rintro v h8 ⟨r7, rfl, w⟩
      refine w_lsub dX12_lessens_32 ?_
      refine w_iload_n dX12_lessens_33 rfl ?_
      refine w_callS (As := [.int l1]) (st := [.long ((r5 <<< ((r1 - r3 : Int32).toInt64 &&& 63)) - r7)]) dX12_lessens_34 mt_X12_place g_1392 g_1393 rfl rfl (Nat.le_of_ble_eq_true rfl) (Nat.le_refl _) ⟨Nat.le_refl _, Nat.le_refl _⟩ w ?_
      rintro v h10 ⟨r9, rfl, w⟩
      refine w_iconst (v := 0) dX12_lessens_37 rfl ?_
      refine w_callS (As := [.long ((r5 <<< ((r1 - r3 : Int32).toInt64 &&& 63)) - r7), .int r9, .int 0]) (st := []) dX12_lessens_38 mt_X12_nearest g_1378 g_1379 rfl rfl (Nat.le_of_ble_eq_true rfl) (Nat.le_refl _) ⟨Nat.le_refl _, Nat.le_refl _⟩ w ?_
      rintro v h12 ⟨r11, rfl, w⟩
      exact w_ireturn dX12_lessens_41 rfl rfl ⟨Nat.le_refl _, Nat.le_refl _⟩ w
    · rw [if_neg c] at w
      refine w_iload_n dX12_lessens_20 rfl ?_
      exact w_ireturn dX12_lessens_21 rfl rfl ⟨Nat.le_refl _, Nat.le_refl _⟩ w
set_option maxRecDepth 20000 in
set_option maxHeartbeats 4000000 in
theorem x_X12_multiplies {G : pm_G} {d : Nat} {post : pm_PT} {h : pm_H} {l0 : Int32} {l1 : Int32} (w :
    if l0 = 0 then (
      post (some (.int 0)) h
    ) else (
      if l1 = 0 then (
        post (some (.int 0)) h
      ) else (
        cl G d m_X12_digits [.int l0] h fun r1 h2 =>
        cl G d m_X12_digits [.int l1] h2 fun r3 h4 =>
        ci G d m_X12_place [.int l0] h4 fun r5 h6 =>
        ci G d m_X12_place [.int l1] h6 fun r7 h8 =>
        ci G d m_X12_nearest [.long (r1 * r3), .int (r5 + r7), .int 0] h8 fun r9 h10 =>
        post (some (.int r9)) h10
      )
    )) :
    Wp G (m_X12_multiplies, d + 1, 0, 0, post) (0, 0) 0 [.int l0, .int l1] [] h := by
  refine w_iload_n dX12_multiplies_0 rfl ?_
  refine w_if_eq (tgt := 8) dX12_multiplies_1 rfl (fun c => ?_) (fun c => ?_)
  · rw [if_pos c] at w
    refine w_iconst (v := 0) dX12_multiplies_8 rfl ?_
    refine w_goto (tgt := 34) dX12_multiplies_9 rfl ?_
    exact w_ireturn dX12_multiplies_34 rfl rfl ⟨Nat.le_refl _, Nat.le_refl _⟩ w
  · rw [if_neg c] at w
    refine w_iload_n dX12_multiplies_4 rfl ?_
    refine w_if_ne (tgt := 12) dX12_multiplies_5 rfl (fun c => ?_) (fun c => ?_)
    · rw [if_neg c] at w
      refine w_iload_n dX12_multiplies_12 rfl ?_
      refine w_callS (As := [.int l0]) (st := []) dX12_multiplies_13 mt_X12_digits g_1388 g_1389 rfl rfl (Nat.le_of_ble_eq_true rfl) (Nat.le_refl _) ⟨Nat.le_refl _, Nat.le_refl _⟩ w ?_
      rintro v h2 ⟨r1, rfl, w⟩
      refine w_iload_n dX12_multiplies_16 rfl ?_
      refine w_callS (As := [.int l1]) (st := [.long r1]) dX12_multiplies_17 mt_X12_digits g_1388 g_1389 rfl rfl (Nat.le_of_ble_eq_true rfl) (Nat.le_refl _) ⟨Nat.le_refl _, Nat.le_refl _⟩ w ?_
      rintro v h4 ⟨r3, rfl, w⟩
      refine w_lmul dX12_multiplies_20 ?_
      refine w_iload_n dX12_multiplies_21 rfl ?_
      refine w_callS (As := [.int l0]) (st := [.long (r1 * r3)]) dX12_multiplies_22 mt_X12_place g_1392 g_1393 rfl rfl (Nat.le_of_ble_eq_true rfl) (Nat.le_refl _) ⟨Nat.le_refl _, Nat.le_refl _⟩ w ?_
      rintro v h6 ⟨r5, rfl, w⟩
      refine w_iload_n dX12_multiplies_25 rfl ?_
      refine w_callS (As := [.int l1]) (st := [.int r5, .long (r1 * r3)]) dX12_multiplies_26 mt_X12_place g_1392 g_1393 rfl rfl (Nat.le_of_ble_eq_true rfl) (Nat.le_refl _) ⟨Nat.le_refl _, Nat.le_refl _⟩ w ?_
      rintro v h8 ⟨r7, rfl, w⟩
      refine w_iadd dX12_multiplies_29 ?_
      refine w_iconst (v := 0) dX12_multiplies_30 rfl ?_
      refine w_callS (As := [.long (r1 * r3), .int (r5 + r7), .int 0]) (st := []) dX12_multiplies_31 mt_X12_nearest g_1378 g_1379 rfl rfl (Nat.le_of_ble_eq_true rfl) (Nat.le_refl _) ⟨Nat.le_refl _, Nat.le_refl _⟩ w ?_
      rintro v h10 ⟨r9, rfl, w⟩
      exact w_ireturn dX12_multiplies_34 rfl rfl ⟨Nat.le_refl _, Nat.le_refl _⟩ w
    · rw [if_pos c] at w
      refine w_iconst (v := 0) dX12_multiplies_8 rfl ?_
      refine w_goto (tgt := 34) dX12_multiplies_9 rfl ?_
      exact w_ireturn dX12_multiplies_34 rfl rfl ⟨Nat.le_refl _, Nat.le_refl _⟩ w
set_option maxRecDepth 20000 in
set_option maxHeartbeats 4000000 in
theorem x_X12_divides {G : pm_G} {d : Nat} {post : pm_PT} {h : pm_H} {l0 : Int32} {l1 : Int32} (w :
    if l0 = 0 then (
      post (some (.int 0)) h
    ) else (
      cl G d m_X12_digits [.int l0] h fun r1 h2 =>
      cl G d m_X12_digits [.int l1] h2 fun r3 h4 =>
      (¬ r3 = 0) ∧
      ci G d m_X12_place [.int l0] h4 fun r5 h6 =>
      ci G d m_X12_place [.int l1] h6 fun r7 h8 =>
      cl G d m_X12_digits [.int l1] h8 fun r9 h10 =>
      (¬ r9 = 0) ∧
      if (lg_cmp ((r1 <<< ((38 : Int32).toInt64 &&& 63)) - (r1 <<< ((38 : Int32).toInt64 &&& 63)) / r9 * r9) (0 : Int64)) = 0 then (
        ci G d m_X12_nearest [.long ((r1 <<< ((38 : Int32).toInt64 &&& 63)) / r3), .int ((r5 - 38) - r7), .int 0] h10 fun r11 h12 =>
        post (some (.int r11)) h12
      ) else (
        ci G d m_X12_nearest [.long ((r1 <<< ((38 : Int32).toInt64 &&& 63)) / r3), .int ((r5 - 38) - r7), .int 1] h10 fun r13 h14 =>
        post (some (.int r13)) h14
      )
    )) :
    Wp G (m_X12_divides, d + 1, 0, 0, post) (0, 0) 0 [.int l0, .int l1, .null, .null] [] h := by
  refine w_iload_n dX12_divides_0 rfl ?_
  refine w_if_ne (tgt := 6) dX12_divides_1 rfl (fun c => ?_) (fun c => ?_)
  · rw [if_neg c] at w
    refine w_iload_n dX12_divides_6 rfl ?_
    refine w_callS (As := [.int l0]) (st := []) dX12_divides_7 mt_X12_digits g_1388 g_1389 rfl rfl (Nat.le_of_ble_eq_true rfl) (Nat.le_refl _) ⟨Nat.le_refl _, Nat.le_refl _⟩ w ?_
    rintro v h2 ⟨r1, rfl, w⟩
    refine w_bipush (v := 38) dX12_divides_10 rfl ?_
    refine w_lshl dX12_divides_12 ?_
    refine v_lstore_n (l' := [.int l0, .int l1, .long (r1 <<< ((38 : Int32).toInt64 &&& 63)), .null]) dX12_divides_13 (Nat.le_of_ble_eq_true rfl) rfl ?_
    refine w_lload_n dX12_divides_14 rfl ?_
    refine w_iload_n dX12_divides_15 rfl ?_
    refine w_callS (As := [.int l1]) (st := [.long (r1 <<< ((38 : Int32).toInt64 &&& 63))]) dX12_divides_16 mt_X12_digits g_1388 g_1389 rfl rfl (Nat.le_of_ble_eq_true rfl) (Nat.le_refl _) ⟨Nat.le_refl _, Nat.le_refl _⟩ w ?_
    rintro v h4 ⟨r3, rfl, w⟩
    obtain ⟨e1, w⟩ := w
    refine w_ldiv dX12_divides_19 e1 ?_
    refine w_iload_n dX12_divides_20 rfl ?_
    refine w_callS (As := [.int l0]) (st := [.long ((r1 <<< ((38 : Int32).toInt64 &&& 63)) / r3)]) dX12_divides_21 mt_X12_place g_1392 g_1393 rfl rfl (Nat.le_of_ble_eq_true rfl) (Nat.le_refl _) ⟨Nat.le_refl _, Nat.le_refl _⟩ w ?_
    rintro v h6 ⟨r5, rfl, w⟩
    refine w_bipush (v := 38) dX12_divides_24 rfl ?_
    refine w_isub dX12_divides_26 ?_
    refine w_iload_n dX12_divides_27 rfl ?_
    refine w_callS (As := [.int l1]) (st := [.int (r5 - 38), .long ((r1 <<< ((38 : Int32).toInt64 &&& 63)) / r3)]) dX12_divides_28 mt_X12_place g_1392 g_1393 rfl rfl (Nat.le_of_ble_eq_true rfl) (Nat.le_refl _) ⟨Nat.le_refl _, Nat.le_refl _⟩ w ?_
    rintro v h8 ⟨r7, rfl, w⟩
    refine w_isub dX12_divides_31 ?_
    refine w_lload_n dX12_divides_32 rfl ?_
    refine w_iload_n dX12_divides_33 rfl ?_
    refine w_callS (As := [.int l1]) (st := [.long (r1 <<< ((38 : Int32).toInt64 &&& 63)), .int ((r5 - 38) - r7), .long ((r1 <<< ((38 : Int32).toInt64 &&& 63)) / r3)]) dX12_divides_34 mt_X12_digits g_1388 g_1389 rfl rfl (Nat.le_of_ble_eq_true rfl) (Nat.le_refl _) ⟨Nat.le_refl _, Nat.le_refl _⟩ w ?_
    rintro v h10 ⟨r9, rfl, w⟩
    obtain ⟨e1, w⟩ := w
    refine w_lrem dX12_divides_37 e1 ?_
    refine w_lconst (v := 0) dX12_divides_38 rfl ?_
    refine w_lcmp dX12_divides_39 ?_
    refine w_if_eq (tgt := 47) dX12_divides_40 rfl (fun c => ?_) (fun c => ?_)
    · rw [if_pos c] at w
      refine w_iconst (v := 0) dX12_divides_47 rfl ?_
      refine w_callS (As := [.long ((r1 <<< ((38 : Int32).toInt64 &&& 63)) / r3), .int ((r5 - 38) - r7), .int 0]) (st := []) dX12_divides_48 mt_X12_nearest g_1378 g_1379 rfl rfl (Nat.le_of_ble_eq_true rfl) (Nat.le_refl _) ⟨Nat.le_refl _, Nat.le_refl _⟩ w ?_
      rintro v h12 ⟨r11, rfl, w⟩
      exact w_ireturn dX12_divides_51 rfl rfl ⟨Nat.le_refl _, Nat.le_refl _⟩ w
    · rw [if_neg c] at w
      refine w_iconst (v := 1) dX12_divides_43 rfl ?_
      refine w_goto (tgt := 48) dX12_divides_44 rfl ?_
      refine w_callS (As := [.long ((r1 <<< ((38 : Int32).toInt64 &&& 63)) / r3), .int ((r5 - 38) - r7), .int 1]) (st := []) dX12_divides_48 mt_X12_nearest g_1378 g_1379 rfl rfl (Nat.le_of_ble_eq_true rfl) (Nat.le_refl _) ⟨Nat.le_refl _, Nat.le_refl _⟩ w ?_
      rintro v h14 ⟨r13, rfl, w⟩
      exact w_ireturn dX12_divides_51 rfl rfl ⟨Nat.le_refl _, Nat.le_refl _⟩ w
  · rw [if_pos c] at w
    refine w_iconst (v := 0) dX12_divides_4 rfl ?_
    exact w_ireturn dX12_divides_5 rfl rfl ⟨Nat.le_refl _, Nat.le_refl _⟩ w
set_option maxRecDepth 20000 in
set_option maxHeartbeats 4000000 in
theorem x_X12_cutsOf {G : pm_G} {d : Nat} {post : pm_PT} {h : pm_H} {l0 : Int32} (w :
    ci G d m_X12_place [.int l0] h fun r1 h2 =>
    if l0 = 0 then (
      post (some (.int 0)) h2
    ) else (
      if (-30) ≤ r1 then (
        if 0 ≤ r1 then (
          cl G d m_X12_digits [.int l0] h2 fun r3 h4 =>
          post (some (.int ((r3 <<< ((r1 : Int32).toInt64 &&& 63) : Int64).toInt32))) h4
        ) else (
          cl G d m_X12_digits [.int l0] h2 fun r5 h6 =>
          post (some (.int ((r5 >>> ((-r1 : Int32).toInt64 &&& 63) : Int64).toInt32))) h6
        )
      ) else (
        post (some (.int 0)) h2
      )
    )) :
    Wp G (m_X12_cutsOf, d + 1, 0, 0, post) (0, 0) 0 [.int l0, .null] [] h := by
  refine w_iload_n dX12_cutsOf_0 rfl ?_
  refine w_callS (As := [.int l0]) (st := []) dX12_cutsOf_1 mt_X12_place g_1392 g_1393 rfl rfl (Nat.le_of_ble_eq_true rfl) (Nat.le_refl _) ⟨Nat.le_refl _, Nat.le_refl _⟩ w ?_
  rintro v h2 ⟨r1, rfl, w⟩
  refine v_istore_n (l' := [.int l0, .int r1]) dX12_cutsOf_4 (Nat.le_of_ble_eq_true rfl) rfl ?_
  refine w_iload_n dX12_cutsOf_5 rfl ?_
  refine w_if_eq (tgt := 15) dX12_cutsOf_6 rfl (fun c => ?_) (fun c => ?_)
  · rw [if_pos c] at w
    refine w_iconst (v := 0) dX12_cutsOf_15 rfl ?_
    refine w_goto (tgt := 41) dX12_cutsOf_16 rfl ?_
    exact w_ireturn dX12_cutsOf_41 rfl rfl ⟨Nat.le_refl _, Nat.le_refl _⟩ w
  · rw [if_neg c] at w
    refine w_iload_n dX12_cutsOf_9 rfl ?_
    refine w_bipush (v := (-30)) dX12_cutsOf_10 rfl ?_
    refine w_ic_ge (tgt := 19) dX12_cutsOf_12 rfl (fun c => ?_) (fun c => ?_)
    · rw [if_pos c] at w
      refine w_iload_n dX12_cutsOf_19 rfl ?_
      refine w_if_ge (tgt := 34) dX12_cutsOf_20 rfl (fun c => ?_) (fun c => ?_)
      · rw [if_pos c] at w
        refine w_iload_n dX12_cutsOf_34 rfl ?_
        refine w_callS (As := [.int l0]) (st := []) dX12_cutsOf_35 mt_X12_digits g_1388 g_1389 rfl rfl (Nat.le_of_ble_eq_true rfl) (Nat.le_refl _) ⟨Nat.le_refl _, Nat.le_refl _⟩ w ?_
        rintro v h4 ⟨r3, rfl, w⟩
        refine w_iload_n dX12_cutsOf_38 rfl ?_
        refine w_lshl dX12_cutsOf_39 ?_
        refine w_l2i dX12_cutsOf_40 ?_
        exact w_ireturn dX12_cutsOf_41 rfl rfl ⟨Nat.le_refl _, Nat.le_refl _⟩ w
      · rw [if_neg c] at w
        refine w_iload_n dX12_cutsOf_23 rfl ?_
        refine w_callS (As := [.int l0]) (st := []) dX12_cutsOf_24 mt_X12_digits g_1388 g_1389 rfl rfl (Nat.le_of_ble_eq_true rfl) (Nat.le_refl _) ⟨Nat.le_refl _, Nat.le_refl _⟩ w ?_
        rintro v h6 ⟨r5, rfl, w⟩
        refine w_iload_n dX12_cutsOf_27 rfl ?_
        refine w_ineg dX12_cutsOf_28 ?_
        refine w_lshr dX12_cutsOf_29 ?_
        refine w_l2i dX12_cutsOf_30 ?_
        refine w_goto (tgt := 41) dX12_cutsOf_31 rfl ?_
        exact w_ireturn dX12_cutsOf_41 rfl rfl ⟨Nat.le_refl _, Nat.le_refl _⟩ w
    · rw [if_neg c] at w
      refine w_iconst (v := 0) dX12_cutsOf_15 rfl ?_
      refine w_goto (tgt := 41) dX12_cutsOf_16 rfl ?_
      exact w_ireturn dX12_cutsOf_41 rfl rfl ⟨Nat.le_refl _, Nat.le_refl _⟩ w
set_option maxRecDepth 20000 in
set_option maxHeartbeats 4000000 in
theorem x_X12_moves {G : pm_G} {d : Nat} {post : pm_PT} {h : pm_H} {l0 : Nat} {l1 : Int32} {l2 : Int32} {l3 : Int32} (w :
    Wp G (m_X12_moves, d + 1, 0, 0, post) (0, 0) 3 [.ref l0, .int l1, .int l2, .int l3, .int 0] [] h) :
    Wp G (m_X12_moves, d + 1, 0, 0, post) (0, 0) 0 [.ref l0, .int l1, .int l2, .int l3, .null] [] h := by
  refine w_iconst (v := 0) dX12_moves_0 rfl ?_
  refine v_istore (l' := [.ref l0, .int l1, .int l2, .int l3, .int 0]) dX12_moves_1 (Nat.le_of_ble_eq_true rfl) rfl ?_
  exact w
set_option maxRecDepth 20000 in
set_option maxHeartbeats 4000000 in
theorem x_X12_moves_3 {G : pm_G} {d : Nat} {post : pm_PT} {h : pm_H} {l0 : Nat} {l1 : Int32} {l2 : Int32} {l3 : Int32} {l4 : Int32} (w :
    if l3 ≤ l4 then (
      post none h
    ) else (
      (h.1[l0]? = some (0, 11)) ∧
      ∃ n1 : Nat, h.1[gp h l0 17]? = some (1, n1) ∧
      (vp_in (l1 + l4) n1) ∧
      (vp_in (l2 + l4) n1) ∧
      ∀ h2 : pm_H, h2 = si h (gp h l0 17) (l2 + l4 : Int32).toNatClampNeg (gi h (gp h l0 17) (l1 + l4 : Int32).toNatClampNeg) →
      Wp G (m_X12_moves, d + 1, 0, 0, post) (0, 0) 3 [.ref l0, .int l1, .int l2, .int l3, .int (l4 + 1)] [] h2
    )) :
    Wp G (m_X12_moves, d + 1, 0, 0, post) (0, 0) 3 [.ref l0, .int l1, .int l2, .int l3, .int l4] [] h := by
  refine w_iload dX12_moves_3 rfl ?_
  refine w_iload_n dX12_moves_5 rfl ?_
  refine w_ic_ge (tgt := 33) dX12_moves_6 rfl (fun c => ?_) (fun c => ?_)
  · rw [if_pos c] at w
    exact w_return dX12_moves_33 rfl ⟨Nat.le_refl _, Nat.le_refl _⟩ w
  · rw [if_neg c] at w
    refine w_aload_n dX12_moves_9 rfl ?_
    obtain ⟨e1, w⟩ := w
    refine w_getp dX12_moves_10 lk_RX12_97 e1 rfl ?_
    refine w_iload_n dX12_moves_13 rfl ?_
    refine w_iload dX12_moves_14 rfl ?_
    refine w_iadd dX12_moves_16 ?_
    refine w_aload_n dX12_moves_17 rfl ?_
    refine w_getp dX12_moves_18 lk_RX12_97 e1 rfl ?_
    refine w_iload_n dX12_moves_21 rfl ?_
    refine w_iload dX12_moves_22 rfl ?_
    refine w_iadd dX12_moves_24 ?_
    obtain ⟨n1, ln1, w⟩ := w
    obtain ⟨e3, w⟩ := w
    refine w_iald dX12_moves_25 ln1 e3 ?_
    obtain ⟨e4, w⟩ := w
    refine w_iast dX12_moves_26 ln1 e4 ?_
    have w := w _ rfl
    refine v_iinc (l' := [.ref l0, .int l1, .int l2, .int l3, .int (l4 + 1)]) (v := l4 + 1) dX12_moves_27 rfl rfl (Nat.le_of_ble_eq_true rfl) rfl ?_
    refine w_goto (tgt := 3) dX12_moves_30 rfl ?_
    exact w
set_option maxRecDepth 20000 in
set_option maxHeartbeats 4000000 in
theorem x_X12_heaps {G : pm_G} {d : Nat} {post : pm_PT} {h : pm_H} {l0 : Nat} (w :
    (h.1[l0]? = some (0, 11)) ∧
    ∃ n1 : Nat, h.1[gp h l0 10]? = some (1, n1) ∧
    (vp_in 0 n1) ∧
    post (some (.int (gi h (gp h l0 10) (0 : Int32).toNatClampNeg))) h) :
    Wp G (m_X12_heaps, d + 1, 0, 0, post) (0, 0) 0 [.ref l0] [] h := by
  refine w_aload_n dX12_heaps_0 rfl ?_
  obtain ⟨e1, w⟩ := w
  refine w_getp dX12_heaps_1 lk_RX12_79 e1 rfl ?_
  refine w_iconst (v := 0) dX12_heaps_4 rfl ?_
  obtain ⟨n1, ln1, w⟩ := w
  obtain ⟨e3, w⟩ := w
  refine w_iald dX12_heaps_5 ln1 e3 ?_
  exact w_ireturn dX12_heaps_6 rfl rfl ⟨Nat.le_refl _, Nat.le_refl _⟩ w
set_option maxRecDepth 20000 in
set_option maxHeartbeats 4000000 in
theorem x_X12_items {G : pm_G} {d : Nat} {post : pm_PT} {h : pm_H} {l0 : Nat} (w :
    (h.1[l0]? = some (0, 11)) ∧
    ∃ n1 : Nat, h.1[gp h l0 10]? = some (1, n1) ∧
    (vp_in 2 n1) ∧
    post (some (.int (gi h (gp h l0 10) (2 : Int32).toNatClampNeg))) h) :
    Wp G (m_X12_items, d + 1, 0, 0, post) (0, 0) 0 [.ref l0] [] h := by
  refine w_aload_n dX12_items_0 rfl ?_
  obtain ⟨e1, w⟩ := w
  refine w_getp dX12_items_1 lk_RX12_79 e1 rfl ?_
  refine w_iconst (v := 2) dX12_items_4 rfl ?_
  obtain ⟨n1, ln1, w⟩ := w
  obtain ⟨e3, w⟩ := w
  refine w_iald dX12_items_5 ln1 e3 ?_
  exact w_ireturn dX12_items_6 rfl rfl ⟨Nat.le_refl _, Nat.le_refl _⟩ w
set_option maxRecDepth 20000 in
set_option maxHeartbeats 4000000 in
theorem x_X12_itemOf {G : pm_G} {d : Nat} {post : pm_PT} {h : pm_H} {l0 : Nat} {l1 : Int32} {l2 : Int32} (w :
    (h.1[l0]? = some (0, 11)) ∧
    ∃ n1 : Nat, h.1[gp h l0 10]? = some (1, n1) ∧
    (vp_in ((7 + (4 * l1)) + l2) n1) ∧
    post (some (.int (gi h (gp h l0 10) ((7 + (4 * l1)) + l2 : Int32).toNatClampNeg))) h) :
    Wp G (m_X12_itemOf, d + 1, 0, 0, post) (0, 0) 0 [.ref l0, .int l1, .int l2] [] h := by
  refine w_aload_n dX12_itemOf_0 rfl ?_
  obtain ⟨e1, w⟩ := w
  refine w_getp dX12_itemOf_1 lk_RX12_79 e1 rfl ?_
  refine w_bipush (v := 7) dX12_itemOf_4 rfl ?_
  refine w_iconst (v := 4) dX12_itemOf_6 rfl ?_
  refine w_iload_n dX12_itemOf_7 rfl ?_
  refine w_imul dX12_itemOf_8 ?_
  refine w_iadd dX12_itemOf_9 ?_
  refine w_iload_n dX12_itemOf_10 rfl ?_
  refine w_iadd dX12_itemOf_11 ?_
  obtain ⟨n1, ln1, w⟩ := w
  obtain ⟨e3, w⟩ := w
  refine w_iald dX12_itemOf_12 ln1 e3 ?_
  exact w_ireturn dX12_itemOf_13 rfl rfl ⟨Nat.le_refl _, Nat.le_refl _⟩ w
set_option maxRecDepth 20000 in
set_option maxHeartbeats 4000000 in
theorem x_X12_isHeap {G : pm_G} {d : Nat} {post : pm_PT} {h : pm_H} {l0 : Nat} {l1 : Int32} (w :
    if l1 < 0 then (
      post (some (.int 0)) h
    ) else (
      (h.1[l0]? = some (0, 11)) ∧
      ci G d m_X12_heaps [.ref l0] h fun r1 h2 =>
      if r1 ≤ l1 then (
        post (some (.int 0)) h2
      ) else (
        post (some (.int 1)) h2
      )
    )) :
    Wp G (m_X12_isHeap, d + 1, 0, 0, post) (0, 0) 0 [.ref l0, .int l1] [] h := by
  refine w_iload_n dX12_isHeap_0 rfl ?_
  refine w_if_lt (tgt := 16) dX12_isHeap_1 rfl (fun c => ?_) (fun c => ?_)
  · rw [if_pos c] at w
    refine w_iconst (v := 0) dX12_isHeap_16 rfl ?_
    exact w_ireturn dX12_isHeap_17 rfl rfl ⟨Nat.le_refl _, Nat.le_refl _⟩ w
  · rw [if_neg c] at w
    refine w_iload_n dX12_isHeap_4 rfl ?_
    refine w_aload_n dX12_isHeap_5 rfl ?_
    obtain ⟨e1, w⟩ := w
    refine w_callV (As := []) (st := [.int l1]) dX12_isHeap_6 mt_X12_heaps g_1679 g_1681 g_98 rfl e1 rfl rfl (Nat.le_of_ble_eq_true rfl) (Nat.le_refl _) ⟨Nat.le_refl _, Nat.le_refl _⟩ w ?_
    rintro v h2 ⟨r1, rfl, w⟩
    refine w_ic_ge (tgt := 16) dX12_isHeap_9 rfl (fun c => ?_) (fun c => ?_)
    · rw [if_pos c] at w
      refine w_iconst (v := 0) dX12_isHeap_16 rfl ?_
      exact w_ireturn dX12_isHeap_17 rfl rfl ⟨Nat.le_refl _, Nat.le_refl _⟩ w
    · rw [if_neg c] at w
      refine w_iconst (v := 1) dX12_isHeap_12 rfl ?_
      refine w_goto (tgt := 17) dX12_isHeap_13 rfl ?_
      exact w_ireturn dX12_isHeap_17 rfl rfl ⟨Nat.le_refl _, Nat.le_refl _⟩ w
set_option maxRecDepth 20000 in
set_option maxHeartbeats 4000000 in
theorem x_X12_isItem {G : pm_G} {d : Nat} {post : pm_PT} {h : pm_H} {l0 : Nat} {l1 : Int32} (w :
    if l1 < 0 then (
      post (some (.int 0)) h
    ) else (
      (h.1[l0]? = some (0, 11)) ∧
      ci G d m_X12_items [.ref l0] h fun r1 h2 =>
      if r1 ≤ l1 then (
        post (some (.int 0)) h2
      ) else (
        post (some (.int 1)) h2
      )
    )) :
    Wp G (m_X12_isItem, d + 1, 0, 0, post) (0, 0) 0 [.ref l0, .int l1] [] h := by
  refine w_iload_n dX12_isItem_0 rfl ?_
  refine w_if_lt (tgt := 16) dX12_isItem_1 rfl (fun c => ?_) (fun c => ?_)
  · rw [if_pos c] at w
    refine w_iconst (v := 0) dX12_isItem_16 rfl ?_
    exact w_ireturn dX12_isItem_17 rfl rfl ⟨Nat.le_refl _, Nat.le_refl _⟩ w
  · rw [if_neg c] at w
    refine w_iload_n dX12_isItem_4 rfl ?_
    refine w_aload_n dX12_isItem_5 rfl ?_
    obtain ⟨e1, w⟩ := w
    refine w_callV (As := []) (st := [.int l1]) dX12_isItem_6 mt_X12_items g_1363 g_1365 g_52 rfl e1 rfl rfl (Nat.le_of_ble_eq_true rfl) (Nat.le_refl _) ⟨Nat.le_refl _, Nat.le_refl _⟩ w ?_
    rintro v h2 ⟨r1, rfl, w⟩
    refine w_ic_ge (tgt := 16) dX12_isItem_9 rfl (fun c => ?_) (fun c => ?_)
    · rw [if_pos c] at w
      refine w_iconst (v := 0) dX12_isItem_16 rfl ?_
      exact w_ireturn dX12_isItem_17 rfl rfl ⟨Nat.le_refl _, Nat.le_refl _⟩ w
    · rw [if_neg c] at w
      refine w_iconst (v := 1) dX12_isItem_12 rfl ?_
      refine w_goto (tgt := 17) dX12_isItem_13 rfl ?_
      exact w_ireturn dX12_isItem_17 rfl rfl ⟨Nat.le_refl _, Nat.le_refl _⟩ w
set_option maxRecDepth 20000 in
set_option maxHeartbeats 4000000 in
theorem x_X12_keyBy {G : pm_G} {d : Nat} {post : pm_PT} {h : pm_H} {l0 : Nat} {l1 : Int32} (w :
    (h.1[l0]? = some (0, 11)) ∧
    ci G d m_X12_itemOf [.ref l0, .int l1, .int 1] h fun r1 h2 =>
    ci G d m_X12_ofWhole [.int r1] h2 fun r3 h4 =>
    (h4.1[l0]? = some (0, 11)) ∧
    ci G d m_X12_itemOf [.ref l0, .int l1, .int 2] h4 fun r5 h6 =>
    ci G d m_X12_ofWhole [.int r5] h6 fun r7 h8 =>
    ci G d m_X12_divides [.int r3, .int r7] h8 fun r9 h10 =>
    (h10.1[l0]? = some (0, 11)) ∧
    ci G d m_X12_itemOf [.ref l0, .int l1, .int 0] h10 fun r11 h12 =>
    if r11 = 1 then (
      ci G d m_X12_multiplies [.int r9, .int 1056964608] h12 fun r13 h14 =>
      post (some (.int r13)) h14
    ) else (
    if r11 = 2 then (
      ci G d m_X12_adds [.int r9, .int 1036831949] h12 fun r15 h16 =>
      post (some (.int r15)) h16
    ) else (
    if r11 = 3 then (
      ci G d m_X12_adds [.int r9, .int 1065353216] h12 fun r17 h18 =>
      ci G d m_X12_divides [.int 1065353216, .int r17] h18 fun r19 h20 =>
      post (some (.int r19)) h20
    ) else (
    post (some (.int r9)) h12
    )))) :
    Wp G (m_X12_keyBy, d + 1, 0, 0, post) (0, 0) 0 [.ref l0, .int l1, .null] [] h := by
  refine w_aload_n dX12_keyBy_0 rfl ?_
  refine w_iload_n dX12_keyBy_1 rfl ?_
  refine w_iconst (v := 1) dX12_keyBy_2 rfl ?_
  obtain ⟨e1, w⟩ := w
  refine w_callV (As := [.int l1, .int 1]) (st := []) dX12_keyBy_3 mt_X12_itemOf g_1371 g_1373 g_54 rfl e1 rfl rfl (Nat.le_of_ble_eq_true rfl) (Nat.le_refl _) ⟨Nat.le_refl _, Nat.le_refl _⟩ w ?_
  rintro v h2 ⟨r1, rfl, w⟩
  refine w_callS (As := [.int r1]) (st := []) dX12_keyBy_6 mt_X12_ofWhole g_1375 g_1376 rfl rfl (Nat.le_of_ble_eq_true rfl) (Nat.le_refl _) ⟨Nat.le_refl _, Nat.le_refl _⟩ w ?_
  rintro v h4 ⟨r3, rfl, w⟩
  refine w_aload_n dX12_keyBy_9 rfl ?_
  refine w_iload_n dX12_keyBy_10 rfl ?_
  refine w_iconst (v := 2) dX12_keyBy_11 rfl ?_
  obtain ⟨e1, w⟩ := w
  refine w_callV (As := [.int l1, .int 2]) (st := [.int r3]) dX12_keyBy_12 mt_X12_itemOf g_1371 g_1373 g_54 rfl e1 rfl rfl (Nat.le_of_ble_eq_true rfl) (Nat.le_refl _) ⟨Nat.le_refl _, Nat.le_refl _⟩ w ?_
  rintro v h6 ⟨r5, rfl, w⟩
  refine w_callS (As := [.int r5]) (st := [.int r3]) dX12_keyBy_15 mt_X12_ofWhole g_1375 g_1376 rfl rfl (Nat.le_of_ble_eq_true rfl) (Nat.le_refl _) ⟨Nat.le_refl _, Nat.le_refl _⟩ w ?_
  rintro v h8 ⟨r7, rfl, w⟩
  refine w_callS (As := [.int r3, .int r7]) (st := []) dX12_keyBy_18 mt_X12_divides g_1385 g_1386 rfl rfl (Nat.le_of_ble_eq_true rfl) (Nat.le_refl _) ⟨Nat.le_refl _, Nat.le_refl _⟩ w ?_
  rintro v h10 ⟨r9, rfl, w⟩
  refine v_istore_n (l' := [.ref l0, .int l1, .int r9]) dX12_keyBy_21 (Nat.le_of_ble_eq_true rfl) rfl ?_
  refine w_aload_n dX12_keyBy_22 rfl ?_
  refine w_iload_n dX12_keyBy_23 rfl ?_
  refine w_iconst (v := 0) dX12_keyBy_24 rfl ?_
  obtain ⟨e1, w⟩ := w
  refine w_callV (As := [.int l1, .int 0]) (st := []) dX12_keyBy_25 mt_X12_itemOf g_1371 g_1373 g_54 rfl e1 rfl rfl (Nat.le_of_ble_eq_true rfl) (Nat.le_refl _) ⟨Nat.le_refl _, Nat.le_refl _⟩ w ?_
  rintro v h12 ⟨r11, rfl, w⟩
  have sw : (r11 : Int32).toInt < 1 ∨ 3 < (r11 : Int32).toInt ∨ (r11 : Int32).toInt = 1 ∨ (r11 : Int32).toInt = 2 ∨ (r11 : Int32).toInt = 3 := by omega
  rcases sw with sw | sw | sw | sw | sw
  · refine w_tsw (tgt := 86) dX12_keyBy_28 (by rw [if_pos (by first | exact Or.inl sw | exact Or.inr sw)]; rfl) (by first | exact Or.inl sw | exact Or.inr (Or.inl sw)) ?_
    rw [if_neg (fun q => by rw [q] at sw; revert sw; decide)] at w
    rw [if_neg (fun q => by rw [q] at sw; revert sw; decide)] at w
    rw [if_neg (fun q => by rw [q] at sw; revert sw; decide)] at w
    refine w_iload_n dX12_keyBy_86 rfl ?_
    exact w_ireturn dX12_keyBy_87 rfl rfl ⟨Nat.le_refl _, Nat.le_refl _⟩ w
  · refine w_tsw (tgt := 86) dX12_keyBy_28 (by rw [if_pos (by first | exact Or.inl sw | exact Or.inr sw)]; rfl) (by first | exact Or.inl sw | exact Or.inr (Or.inl sw)) ?_
    rw [if_neg (fun q => by rw [q] at sw; revert sw; decide)] at w
    rw [if_neg (fun q => by rw [q] at sw; revert sw; decide)] at w
    rw [if_neg (fun q => by rw [q] at sw; revert sw; decide)] at w
    refine w_iload_n dX12_keyBy_86 rfl ?_
    exact w_ireturn dX12_keyBy_87 rfl rfl ⟨Nat.le_refl _, Nat.le_refl _⟩ w
  · have sv : (r11 : Int32) = 1 := Int32.toInt_inj.mp (sw.trans (by decide))
    refine w_tsw (tgt := 56) dX12_keyBy_28 (by rw [sw]; rfl) (by rw [sw]; decide) ?_
    rw [if_pos sv] at w
    refine w_iload_n dX12_keyBy_56 rfl ?_
    refine w_ldcw_i (v := 1056964608) dX12_keyBy_57 g_1395 ?_
    refine w_callS (As := [.int r9, .int 1056964608]) (st := []) dX12_keyBy_60 mt_X12_multiplies g_1396 g_1397 rfl rfl (Nat.le_of_ble_eq_true rfl) (Nat.le_refl _) ⟨Nat.le_refl _, Nat.le_refl _⟩ w ?_
    rintro v h14 ⟨r13, rfl, w⟩
    exact w_ireturn dX12_keyBy_63 rfl rfl ⟨Nat.le_refl _, Nat.le_refl _⟩ w
  · have sv : (r11 : Int32) = 2 := Int32.toInt_inj.mp (sw.trans (by decide))
    refine w_tsw (tgt := 64) dX12_keyBy_28 (by rw [sw]; rfl) (by rw [sw]; decide) ?_
    rw [if_neg (fun q => by rw [q] at sw; revert sw; decide)] at w
    rw [if_pos sv] at w
    refine w_iload_n dX12_keyBy_64 rfl ?_
    refine w_ldcw_i (v := 1036831949) dX12_keyBy_65 g_1399 ?_
    refine w_callS (As := [.int r9, .int 1036831949]) (st := []) dX12_keyBy_68 mt_X12_adds g_1400 g_1401 rfl rfl (Nat.le_of_ble_eq_true rfl) (Nat.le_refl _) ⟨Nat.le_refl _, Nat.le_refl _⟩ w ?_
    rintro v h16 ⟨r15, rfl, w⟩
    exact w_ireturn dX12_keyBy_71 rfl rfl ⟨Nat.le_refl _, Nat.le_refl _⟩ w
  · have sv : (r11 : Int32) = 3 := Int32.toInt_inj.mp (sw.trans (by decide))
    refine w_tsw (tgt := 72) dX12_keyBy_28 (by rw [sw]; rfl) (by rw [sw]; decide) ?_
    rw [if_neg (fun q => by rw [q] at sw; revert sw; decide)] at w
    rw [if_neg (fun q => by rw [q] at sw; revert sw; decide)] at w
    rw [if_pos sv] at w
    refine w_ldcw_i (v := 1065353216) dX12_keyBy_72 g_1403 ?_
    refine w_iload_n dX12_keyBy_75 rfl ?_
    refine w_ldcw_i (v := 1065353216) dX12_keyBy_76 g_1403 ?_
    refine w_callS (As := [.int r9, .int 1065353216]) (st := [.int 1065353216]) dX12_keyBy_79 mt_X12_adds g_1400 g_1401 rfl rfl (Nat.le_of_ble_eq_true rfl) (Nat.le_refl _) ⟨Nat.le_refl _, Nat.le_refl _⟩ w ?_
    rintro v h18 ⟨r17, rfl, w⟩
    refine w_callS (As := [.int 1065353216, .int r17]) (st := []) dX12_keyBy_82 mt_X12_divides g_1385 g_1386 rfl rfl (Nat.le_of_ble_eq_true rfl) (Nat.le_refl _) ⟨Nat.le_refl _, Nat.le_refl _⟩ w ?_
    rintro v h20 ⟨r19, rfl, w⟩
    exact w_ireturn dX12_keyBy_85 rfl rfl ⟨Nat.le_refl _, Nat.le_refl _⟩ w
set_option maxRecDepth 20000 in
set_option maxHeartbeats 4000000 in
theorem x_X12_empties {G : pm_G} {d : Nat} {post : pm_PT} {h : pm_H} {l0 : Nat} {l1 : Int32} (w :
    Wp G (m_X12_empties, d + 1, 0, 0, post) (0, 0) 2 [.ref l0, .int l1, .int 0] [] h) :
    Wp G (m_X12_empties, d + 1, 0, 0, post) (0, 0) 0 [.ref l0, .int l1, .null] [] h := by
  refine w_iconst (v := 0) dX12_empties_0 rfl ?_
  refine v_istore_n (l' := [.ref l0, .int l1, .int 0]) dX12_empties_1 (Nat.le_of_ble_eq_true rfl) rfl ?_
  exact w
set_option maxRecDepth 20000 in
set_option maxHeartbeats 4000000 in
theorem x_X12_empties_2 {G : pm_G} {d : Nat} {post : pm_PT} {h : pm_H} {l0 : Nat} {l1 : Int32} {l2 : Int32} (w :
    if 320 ≤ l2 then (
      post none h
    ) else (
      (h.1[l0]? = some (0, 11)) ∧
      ∃ n1 : Nat, h.1[gp h l0 17]? = some (1, n1) ∧
      (vp_in (l1 + l2) n1) ∧
      ∀ h2 : pm_H, h2 = si h (gp h l0 17) (l1 + l2 : Int32).toNatClampNeg (-1) →
      Wp G (m_X12_empties, d + 1, 0, 0, post) (0, 0) 2 [.ref l0, .int l1, .int (l2 + 1)] [] h2
    )) :
    Wp G (m_X12_empties, d + 1, 0, 0, post) (0, 0) 2 [.ref l0, .int l1, .int l2] [] h := by
  refine w_iload_n dX12_empties_2 rfl ?_
  refine w_sipush (v := 320) dX12_empties_3 rfl ?_
  refine w_ic_ge (tgt := 24) dX12_empties_6 rfl (fun c => ?_) (fun c => ?_)
  · rw [if_pos c] at w
    exact w_return dX12_empties_24 rfl ⟨Nat.le_refl _, Nat.le_refl _⟩ w
  · rw [if_neg c] at w
    refine w_aload_n dX12_empties_9 rfl ?_
    obtain ⟨e1, w⟩ := w
    refine w_getp dX12_empties_10 lk_RX12_97 e1 rfl ?_
    refine w_iload_n dX12_empties_13 rfl ?_
    refine w_iload_n dX12_empties_14 rfl ?_
    refine w_iadd dX12_empties_15 ?_
    refine w_iconst (v := (-1)) dX12_empties_16 rfl ?_
    obtain ⟨n1, ln1, w⟩ := w
    obtain ⟨e3, w⟩ := w
    refine w_iast dX12_empties_17 ln1 e3 ?_
    have w := w _ rfl
    refine v_iinc (l' := [.ref l0, .int l1, .int (l2 + 1)]) (v := l2 + 1) dX12_empties_18 rfl rfl (Nat.le_of_ble_eq_true rfl) rfl ?_
    refine w_goto (tgt := 2) dX12_empties_21 rfl ?_
    exact w
set_option maxRecDepth 20000 in
set_option maxHeartbeats 4000000 in
theorem x_X12_starts {G : pm_G} {d : Nat} {post : pm_PT} {h : pm_H} {l0 : Nat} {l1 : Int32} (w :
    (h.1[l0]? = some (0, 11)) ∧
    cv G d m_X12_empties [.ref l0, .int l1] h fun h2 =>
    Wp G (m_X12_starts, d + 1, 0, 0, post) (0, 0) 7 [.ref l0, .int l1, .int 0] [] h2) :
    Wp G (m_X12_starts, d + 1, 0, 0, post) (0, 0) 0 [.ref l0, .int l1, .null] [] h := by
  refine w_aload_n dX12_starts_0 rfl ?_
  refine w_iload_n dX12_starts_1 rfl ?_
  obtain ⟨e1, w⟩ := w
  refine w_callV (As := [.int l1]) (st := []) dX12_starts_2 mt_X12_empties g_1408 g_1410 g_56 rfl e1 rfl rfl (Nat.le_of_ble_eq_true rfl) (Nat.le_refl _) ⟨Nat.le_refl _, Nat.le_refl _⟩ w ?_
  rintro v h2 ⟨rfl, w⟩
  refine w_iconst (v := 0) dX12_starts_5 rfl ?_
  refine v_istore_n (l' := [.ref l0, .int l1, .int 0]) dX12_starts_6 (Nat.le_of_ble_eq_true rfl) rfl ?_
  exact w
set_option maxRecDepth 20000 in
set_option maxHeartbeats 4000000 in
theorem x_X12_starts_7 {G : pm_G} {d : Nat} {post : pm_PT} {h : pm_H} {l0 : Nat} {l1 : Int32} {l2 : Int32} (w :
    (h.1[l0]? = some (0, 11)) ∧
    ci G d m_X12_items [.ref l0] h fun r1 h2 =>
    if r1 ≤ l2 then (
      post none h2
    ) else (
      (h2.1[l0]? = some (0, 11)) ∧
      ci G d m_X12_itemOf [.ref l0, .int l2, .int 3] h2 fun r3 h4 =>
      (h4.1[l0]? = some (0, 11)) ∧
      cv G d m_X12_puts [.ref l0, .int l1, .int l2, .int r3] h4 fun h6 =>
      Wp G (m_X12_starts, d + 1, 0, 0, post) (0, 0) 7 [.ref l0, .int l1, .int (l2 + 1)] [] h6
    )) :
    Wp G (m_X12_starts, d + 1, 0, 0, post) (0, 0) 7 [.ref l0, .int l1, .int l2] [] h := by
  refine w_iload_n dX12_starts_7 rfl ?_
  refine w_aload_n dX12_starts_8 rfl ?_
  obtain ⟨e1, w⟩ := w
  refine w_callV (As := []) (st := [.int l2]) dX12_starts_9 mt_X12_items g_1363 g_1365 g_52 rfl e1 rfl rfl (Nat.le_of_ble_eq_true rfl) (Nat.le_refl _) ⟨Nat.le_refl _, Nat.le_refl _⟩ w ?_
  rintro v h2 ⟨r1, rfl, w⟩
  refine w_ic_ge (tgt := 33) dX12_starts_12 rfl (fun c => ?_) (fun c => ?_)
  · rw [if_pos c] at w
    exact w_return dX12_starts_33 rfl ⟨Nat.le_refl _, Nat.le_refl _⟩ w
  · rw [if_neg c] at w
    refine w_aload_n dX12_starts_15 rfl ?_
    refine w_iload_n dX12_starts_16 rfl ?_
    refine w_iload_n dX12_starts_17 rfl ?_
    refine w_aload_n dX12_starts_18 rfl ?_
    refine w_iload_n dX12_starts_19 rfl ?_
    refine w_iconst (v := 3) dX12_starts_20 rfl ?_
    obtain ⟨e1, w⟩ := w
    refine w_callV (As := [.int l2, .int 3]) (st := [.int l2, .int l1, .ref l0]) dX12_starts_21 mt_X12_itemOf g_1371 g_1373 g_54 rfl e1 rfl rfl (Nat.le_of_ble_eq_true rfl) (Nat.le_refl _) ⟨Nat.le_refl _, Nat.le_refl _⟩ w ?_
    rintro v h4 ⟨r3, rfl, w⟩
    obtain ⟨e1, w⟩ := w
    refine w_callV (As := [.int l1, .int l2, .int r3]) (st := []) dX12_starts_24 mt_X12_puts g_1412 g_1414 g_57 rfl e1 rfl rfl (Nat.le_of_ble_eq_true rfl) (Nat.le_refl _) ⟨Nat.le_refl _, Nat.le_refl _⟩ w ?_
    rintro v h6 ⟨rfl, w⟩
    refine v_iinc (l' := [.ref l0, .int l1, .int (l2 + 1)]) (v := l2 + 1) dX12_starts_27 rfl rfl (Nat.le_of_ble_eq_true rfl) rfl ?_
    refine w_goto (tgt := 7) dX12_starts_30 rfl ?_
    exact w
set_option maxRecDepth 20000 in
set_option maxHeartbeats 4000000 in
theorem x_X12_begins {G : pm_G} {d : Nat} {post : pm_PT} {h : pm_H} {l0 : Nat} (w :
    Wp G (m_X12_begins, d + 1, 0, 0, post) (0, 0) 2 [.ref l0, .int 0] [] h) :
    Wp G (m_X12_begins, d + 1, 0, 0, post) (0, 0) 0 [.ref l0, .null] [] h := by
  refine w_iconst (v := 0) dX12_begins_0 rfl ?_
  refine v_istore_n (l' := [.ref l0, .int 0]) dX12_begins_1 (Nat.le_of_ble_eq_true rfl) rfl ?_
  exact w
set_option maxRecDepth 20000 in
set_option maxHeartbeats 4000000 in
theorem x_X12_begins_2 {G : pm_G} {d : Nat} {post : pm_PT} {h : pm_H} {l0 : Nat} {l1 : Int32} (w :
    (h.1[l0]? = some (0, 11)) ∧
    ci G d m_X12_items [.ref l0] h fun r1 h2 =>
    if r1 ≤ l1 then (
      (h2.1[l0]? = some (0, 11)) ∧
      cv G d m_X12_starts [.ref l0, .int 0] h2 fun h4 =>
      (h4.1[l0]? = some (0, 11)) ∧
      ∃ n5 : Nat, h4.1[gp h4 l0 17]? = some (1, n5) ∧
      (vp_in 320 n5) ∧
      ∀ h6 : pm_H, h6 = si h4 (gp h4 l0 17) (320 : Int32).toNatClampNeg 0 →
      ∃ n7 : Nat, h4.1[gp h6 l0 14]? = some (1, n7) ∧
      (vp_in 0 n7) ∧
      ∀ h8 : pm_H, h8 = si h6 (gp h6 l0 14) (0 : Int32).toNatClampNeg 0 →
      ∀ h9 : pm_H, h9 = si h8 l0 18 0 →
      ∀ h10 : pm_H, h10 = si h9 l0 19 0 →
      ∃ n11 : Nat, h4.1[gp h10 l0 20]? = some (5, n11) ∧
      (vp_in 0 n11) ∧
      ∀ h12 : pm_H, h12 = si h10 (gp h10 l0 20) (0 : Int32).toNatClampNeg (vp_nar .boolean 0) →
      ∃ n13 : Nat, h4.1[gp h12 l0 20]? = some (5, n13) ∧
      (vp_in 1 n13) ∧
      ∀ h14 : pm_H, h14 = si h12 (gp h12 l0 20) (1 : Int32).toNatClampNeg (vp_nar .boolean 0) →
      post none h14
    ) else (
      (h2.1[l0]? = some (0, 11)) ∧
      ci G d m_X12_keyBy [.ref l0, .int l1] h2 fun r15 h16 =>
      ∃ n17 : Nat, h16.1[gp h2 l0 21]? = some (1, n17) ∧
      (vp_in l1 n17) ∧
      ∀ h18 : pm_H, h18 = si h16 (gp h2 l0 21) (l1 : Int32).toNatClampNeg r15 →
      Wp G (m_X12_begins, d + 1, 0, 0, post) (0, 0) 2 [.ref l0, .int (l1 + 1)] [] h18
    )) :
    Wp G (m_X12_begins, d + 1, 0, 0, post) (0, 0) 2 [.ref l0, .int l1] [] h := by
  refine w_iload_n dX12_begins_2 rfl ?_
  refine w_aload_n dX12_begins_3 rfl ?_
  obtain ⟨e1, w⟩ := w
  refine w_callV (As := []) (st := [.int l1]) dX12_begins_4 mt_X12_items g_1363 g_1365 g_52 rfl e1 rfl rfl (Nat.le_of_ble_eq_true rfl) (Nat.le_refl _) ⟨Nat.le_refl _, Nat.le_refl _⟩ w ?_
  rintro v h2 ⟨r1, rfl, w⟩
  refine w_ic_ge (tgt := 27) dX12_begins_7 rfl (fun c => ?_) (fun c => ?_)
  · rw [if_pos c] at w
    refine w_aload_n dX12_begins_27 rfl ?_
    refine w_iconst (v := 0) dX12_begins_28 rfl ?_
    obtain ⟨e1, w⟩ := w
    refine w_callV (As := [.int 0]) (st := []) dX12_begins_29 mt_X12_starts g_1404 g_1406 g_55 rfl e1 rfl rfl (Nat.le_of_ble_eq_true rfl) (Nat.le_refl _) ⟨Nat.le_refl _, Nat.le_refl _⟩ w ?_
    rintro v h4 ⟨rfl, w⟩
    refine w_aload_n dX12_begins_32 rfl ?_
    obtain ⟨e1, w⟩ := w
    refine w_getp dX12_begins_33 lk_RX12_97 e1 rfl ?_
    refine w_sipush (v := 320) dX12_begins_36 rfl ?_
    refine w_iconst (v := 0) dX12_begins_39 rfl ?_
    obtain ⟨n5, ln5, w⟩ := w
    obtain ⟨e3, w⟩ := w
    refine w_iast dX12_begins_40 ln5 e3 ?_
    have w := w _ rfl
    refine w_aload_n dX12_begins_41 rfl ?_
    refine w_getp dX12_begins_42 lk_RX12_88 e1 rfl ?_
    refine w_iconst (v := 0) dX12_begins_45 rfl ?_
    refine w_iconst (v := 0) dX12_begins_46 rfl ?_
    obtain ⟨n7, ln7, w⟩ := w
    obtain ⟨e5, w⟩ := w
    refine w_iast dX12_begins_47 ln7 e5 ?_
    have w := w _ rfl
    refine w_aload_n dX12_begins_48 rfl ?_
    refine w_iconst (v := 0) dX12_begins_49 rfl ?_
    refine w_puti dX12_begins_50 lk_RX12_289 e1 rfl (Or.inl rfl) ?_
    have w := w _ rfl
    refine w_aload_n dX12_begins_53 rfl ?_
    refine w_iconst (v := 0) dX12_begins_54 rfl ?_
    refine w_puti dX12_begins_55 lk_RX12_292 e1 rfl (Or.inl rfl) ?_
    have w := w _ rfl
    refine w_aload_n dX12_begins_58 rfl ?_
    refine w_getp dX12_begins_59 lk_RX12_100 e1 rfl ?_
    refine w_iconst (v := 0) dX12_begins_62 rfl ?_
    refine w_iconst (v := 0) dX12_begins_63 rfl ?_
    obtain ⟨n11, ln11, w⟩ := w
    obtain ⟨e7, w⟩ := w
    refine w_zast dX12_begins_64 ln11 e7 ?_
    have w := w _ rfl
    refine w_aload_n dX12_begins_65 rfl ?_
    refine w_getp dX12_begins_66 lk_RX12_100 e1 rfl ?_
    refine w_iconst (v := 1) dX12_begins_69 rfl ?_
    refine w_iconst (v := 0) dX12_begins_70 rfl ?_
    obtain ⟨n13, ln13, w⟩ := w
    obtain ⟨e9, w⟩ := w
    refine w_zast dX12_begins_71 ln13 e9 ?_
    have w := w _ rfl
    exact w_return dX12_begins_72 rfl ⟨Nat.le_refl _, Nat.le_refl _⟩ w
  · rw [if_neg c] at w
    refine w_aload_n dX12_begins_10 rfl ?_
    obtain ⟨e1, w⟩ := w
    refine w_getp dX12_begins_11 lk_RX12_104 e1 rfl ?_
    refine w_iload_n dX12_begins_14 rfl ?_
    refine w_aload_n dX12_begins_15 rfl ?_
    refine w_iload_n dX12_begins_16 rfl ?_
    refine w_callV (As := [.int l1]) (st := [.int l1, .ref (gp h2 l0 21)]) dX12_begins_17 mt_X12_keyBy g_1367 g_1369 g_53 rfl e1 rfl rfl (Nat.le_of_ble_eq_true rfl) (Nat.le_refl _) ⟨Nat.le_refl _, Nat.le_refl _⟩ w ?_
    rintro v h16 ⟨r15, rfl, w⟩
    obtain ⟨n17, ln17, w⟩ := w
    obtain ⟨e2, w⟩ := w
    refine w_iast dX12_begins_20 ln17 e2 ?_
    have w := w _ rfl
    refine v_iinc (l' := [.ref l0, .int (l1 + 1)]) (v := l1 + 1) dX12_begins_21 rfl rfl (Nat.le_of_ble_eq_true rfl) rfl ?_
    refine w_goto (tgt := 2) dX12_begins_24 rfl ?_
    exact w
set_option maxRecDepth 20000 in
set_option maxHeartbeats 4000000 in
theorem x_X12_keeps {G : pm_G} {d : Nat} {post : pm_PT} {h : pm_H} {l0 : Nat} (w :
    (h.1[l0]? = some (0, 11)) ∧
    if (gi h l0 18) = 8 then (
      Wp G (m_X12_keeps, d + 1, 0, 0, post) (0, 0) 11 [.ref l0, .int 1] [] h
    ) else (
      Wp G (m_X12_keeps, d + 1, 0, 0, post) (0, 0) 56 [.ref l0, .null] [] h
    )) :
    Wp G (m_X12_keeps, d + 1, 0, 0, post) (0, 0) 0 [.ref l0, .null] [] h := by
  refine w_aload_n dX12_keeps_0 rfl ?_
  obtain ⟨e1, w⟩ := w
  refine w_geti dX12_keeps_1 lk_RX12_289 e1 rfl ?_
  refine w_bipush (v := 8) dX12_keeps_4 rfl ?_
  refine w_ic_ne (tgt := 56) dX12_keeps_6 rfl (fun c => ?_) (fun c => ?_)
  · rw [if_neg c] at w
    exact w
  · rw [if_pos c] at w
    refine w_iconst (v := 1) dX12_keeps_9 rfl ?_
    refine v_istore_n (l' := [.ref l0, .int 1]) dX12_keeps_10 (Nat.le_of_ble_eq_true rfl) rfl ?_
    exact w
set_option maxRecDepth 20000 in
set_option maxHeartbeats 4000000 in
theorem x_X12_keeps_11 {G : pm_G} {d : Nat} {post : pm_PT} {h : pm_H} {l0 : Nat} {l1 : Int32} (w :
    if 8 ≤ l1 then (
      (h.1[l0]? = some (0, 11)) ∧
      ∀ h1 : pm_H, h1 = si h l0 18 ((gi h l0 18) - 1) →
      Wp G (m_X12_keeps, d + 1, 0, 0, post) (0, 0) 56 [.ref l0, .null] [] h1
    ) else (
      (h.1[l0]? = some (0, 11)) ∧
      cv G d m_X12_moves [.ref l0, .int (345 * (3 + l1)), .int (345 * ((3 + l1) - 1)), .int 320] h fun h3 =>
      Wp G (m_X12_keeps, d + 1, 0, 0, post) (0, 0) 11 [.ref l0, .int (l1 + 1)] [] h3
    )) :
    Wp G (m_X12_keeps, d + 1, 0, 0, post) (0, 0) 11 [.ref l0, .int l1] [] h := by
  refine w_iload_n dX12_keeps_11 rfl ?_
  refine w_bipush (v := 8) dX12_keeps_12 rfl ?_
  refine w_ic_ge (tgt := 46) dX12_keeps_14 rfl (fun c => ?_) (fun c => ?_)
  · rw [if_pos c] at w
    refine w_aload_n dX12_keeps_46 rfl ?_
    refine w_dup dX12_keeps_47 rfl ?_
    obtain ⟨e1, w⟩ := w
    refine w_geti dX12_keeps_48 lk_RX12_289 e1 rfl ?_
    refine w_iconst (v := 1) dX12_keeps_51 rfl ?_
    refine w_isub dX12_keeps_52 ?_
    refine w_puti dX12_keeps_53 lk_RX12_289 e1 rfl (Or.inl rfl) ?_
    have w := w _ rfl
    exact w_drop (l' := [.ref l0, .null]) ⟨Or.inr rfl, Or.inl rfl, trivial⟩ w
  · rw [if_neg c] at w
    refine w_aload_n dX12_keeps_17 rfl ?_
    refine w_sipush (v := 345) dX12_keeps_18 rfl ?_
    refine w_iconst (v := 3) dX12_keeps_21 rfl ?_
    refine w_iload_n dX12_keeps_22 rfl ?_
    refine w_iadd dX12_keeps_23 ?_
    refine w_imul dX12_keeps_24 ?_
    refine w_sipush (v := 345) dX12_keeps_25 rfl ?_
    refine w_iconst (v := 3) dX12_keeps_28 rfl ?_
    refine w_iload_n dX12_keeps_29 rfl ?_
    refine w_iadd dX12_keeps_30 ?_
    refine w_iconst (v := 1) dX12_keeps_31 rfl ?_
    refine w_isub dX12_keeps_32 ?_
    refine w_imul dX12_keeps_33 ?_
    refine w_sipush (v := 320) dX12_keeps_34 rfl ?_
    obtain ⟨e1, w⟩ := w
    refine w_callV (As := [.int (345 * (3 + l1)), .int (345 * ((3 + l1) - 1)), .int 320]) (st := []) dX12_keeps_37 mt_X12_moves g_1703 g_1705 g_103 rfl e1 rfl rfl (Nat.le_of_ble_eq_true rfl) (Nat.le_refl _) ⟨Nat.le_refl _, Nat.le_refl _⟩ w ?_
    rintro v h3 ⟨rfl, w⟩
    refine v_iinc (l' := [.ref l0, .int (l1 + 1)]) (v := l1 + 1) dX12_keeps_40 rfl rfl (Nat.le_of_ble_eq_true rfl) rfl ?_
    refine w_goto (tgt := 11) dX12_keeps_43 rfl ?_
    exact w
set_option maxRecDepth 20000 in
set_option maxHeartbeats 4000000 in
theorem x_X12_keeps_56 {G : pm_G} {d : Nat} {post : pm_PT} {h : pm_H} {l0 : Nat} (w :
    (h.1[l0]? = some (0, 11)) ∧
    cv G d m_X12_moves [.ref l0, .int 0, .int (345 * (3 + (gi h l0 18))), .int 320] h fun h2 =>
    (h2.1[l0]? = some (0, 11)) ∧
    ∀ h3 : pm_H, h3 = si h2 l0 18 ((gi h2 l0 18) + 1) →
    post none h3) :
    Wp G (m_X12_keeps, d + 1, 0, 0, post) (0, 0) 56 [.ref l0, .null] [] h := by
  refine w_aload_n dX12_keeps_56 rfl ?_
  refine w_iconst (v := 0) dX12_keeps_57 rfl ?_
  refine w_sipush (v := 345) dX12_keeps_58 rfl ?_
  refine w_iconst (v := 3) dX12_keeps_61 rfl ?_
  refine w_aload_n dX12_keeps_62 rfl ?_
  obtain ⟨e1, w⟩ := w
  refine w_geti dX12_keeps_63 lk_RX12_289 e1 rfl ?_
  refine w_iadd dX12_keeps_66 ?_
  refine w_imul dX12_keeps_67 ?_
  refine w_sipush (v := 320) dX12_keeps_68 rfl ?_
  refine w_callV (As := [.int 0, .int (345 * (3 + (gi h l0 18))), .int 320]) (st := []) dX12_keeps_71 mt_X12_moves g_1703 g_1705 g_103 rfl e1 rfl rfl (Nat.le_of_ble_eq_true rfl) (Nat.le_refl _) ⟨Nat.le_refl _, Nat.le_refl _⟩ w ?_
  rintro v h2 ⟨rfl, w⟩
  refine w_aload_n dX12_keeps_74 rfl ?_
  refine w_dup dX12_keeps_75 rfl ?_
  obtain ⟨e1, w⟩ := w
  refine w_geti dX12_keeps_76 lk_RX12_289 e1 rfl ?_
  refine w_iconst (v := 1) dX12_keeps_79 rfl ?_
  refine w_iadd dX12_keeps_80 ?_
  refine w_puti dX12_keeps_81 lk_RX12_289 e1 rfl (Or.inl rfl) ?_
  have w := w _ rfl
  exact w_return dX12_keeps_84 rfl ⟨Nat.le_refl _, Nat.le_refl _⟩ w
set_option maxRecDepth 20000 in
set_option maxHeartbeats 4000000 in
theorem x_X12_nodeOf {G : pm_G} {d : Nat} {post : pm_PT} {h : pm_H} {l0 : Nat} {l1 : Int32} {l2 : Int32} {l3 : Int32} (w :
    (h.1[l0]? = some (0, 11)) ∧
    ∃ n1 : Nat, h.1[gp h l0 17]? = some (1, n1) ∧
    (vp_in ((l1 + (8 * l2)) + l3) n1) ∧
    post (some (.int (gi h (gp h l0 17) ((l1 + (8 * l2)) + l3 : Int32).toNatClampNeg))) h) :
    Wp G (m_X12_nodeOf, d + 1, 0, 0, post) (0, 0) 0 [.ref l0, .int l1, .int l2, .int l3] [] h := by
  refine w_aload_n dX12_nodeOf_0 rfl ?_
  obtain ⟨e1, w⟩ := w
  refine w_getp dX12_nodeOf_1 lk_RX12_97 e1 rfl ?_
  refine w_iload_n dX12_nodeOf_4 rfl ?_
  refine w_bipush (v := 8) dX12_nodeOf_5 rfl ?_
  refine w_iload_n dX12_nodeOf_7 rfl ?_
  refine w_imul dX12_nodeOf_8 ?_
  refine w_iadd dX12_nodeOf_9 ?_
  refine w_iload_n dX12_nodeOf_10 rfl ?_
  refine w_iadd dX12_nodeOf_11 ?_
  obtain ⟨n1, ln1, w⟩ := w
  obtain ⟨e3, w⟩ := w
  refine w_iald dX12_nodeOf_12 ln1 e3 ?_
  exact w_ireturn dX12_nodeOf_13 rfl rfl ⟨Nat.le_refl _, Nat.le_refl _⟩ w
set_option maxRecDepth 20000 in
set_option maxHeartbeats 4000000 in
theorem x_X12_lays {G : pm_G} {d : Nat} {post : pm_PT} {h : pm_H} {l0 : Nat} {l1 : Int32} {l2 : Int32} {l3 : Int32} {l4 : Int32} (w :
    (h.1[l0]? = some (0, 11)) ∧
    ∃ n1 : Nat, h.1[gp h l0 17]? = some (1, n1) ∧
    (vp_in ((l1 + (8 * l2)) + l3) n1) ∧
    ∀ h2 : pm_H, h2 = si h (gp h l0 17) ((l1 + (8 * l2)) + l3 : Int32).toNatClampNeg l4 →
    post none h2) :
    Wp G (m_X12_lays, d + 1, 0, 0, post) (0, 0) 0 [.ref l0, .int l1, .int l2, .int l3, .int l4] [] h := by
  refine w_aload_n dX12_lays_0 rfl ?_
  obtain ⟨e1, w⟩ := w
  refine w_getp dX12_lays_1 lk_RX12_97 e1 rfl ?_
  refine w_iload_n dX12_lays_4 rfl ?_
  refine w_bipush (v := 8) dX12_lays_5 rfl ?_
  refine w_iload_n dX12_lays_7 rfl ?_
  refine w_imul dX12_lays_8 ?_
  refine w_iadd dX12_lays_9 ?_
  refine w_iload_n dX12_lays_10 rfl ?_
  refine w_iadd dX12_lays_11 ?_
  refine w_iload dX12_lays_12 rfl ?_
  obtain ⟨n1, ln1, w⟩ := w
  obtain ⟨e3, w⟩ := w
  refine w_iast dX12_lays_14 ln1 e3 ?_
  have w := w _ rfl
  exact w_return dX12_lays_15 rfl ⟨Nat.le_refl _, Nat.le_refl _⟩ w
set_option maxRecDepth 20000 in
set_option maxHeartbeats 4000000 in
theorem x_X12_rootAt {G : pm_G} {d : Nat} {post : pm_PT} {h : pm_H} {l0 : Nat} {l1 : Int32} {l2 : Int32} {l3 : Int32} (w :
    (h.1[l0]? = some (0, 11)) ∧
    ∃ n1 : Nat, h.1[gp h l0 17]? = some (1, n1) ∧
    (vp_in (((l1 + 192) + (16 * l2)) + l3) n1) ∧
    post (some (.int (gi h (gp h l0 17) (((l1 + 192) + (16 * l2)) + l3 : Int32).toNatClampNeg))) h) :
    Wp G (m_X12_rootAt, d + 1, 0, 0, post) (0, 0) 0 [.ref l0, .int l1, .int l2, .int l3] [] h := by
  refine w_aload_n dX12_rootAt_0 rfl ?_
  obtain ⟨e1, w⟩ := w
  refine w_getp dX12_rootAt_1 lk_RX12_97 e1 rfl ?_
  refine w_iload_n dX12_rootAt_4 rfl ?_
  refine w_sipush (v := 192) dX12_rootAt_5 rfl ?_
  refine w_iadd dX12_rootAt_8 ?_
  refine w_bipush (v := 16) dX12_rootAt_9 rfl ?_
  refine w_iload_n dX12_rootAt_11 rfl ?_
  refine w_imul dX12_rootAt_12 ?_
  refine w_iadd dX12_rootAt_13 ?_
  refine w_iload_n dX12_rootAt_14 rfl ?_
  refine w_iadd dX12_rootAt_15 ?_
  obtain ⟨n1, ln1, w⟩ := w
  obtain ⟨e3, w⟩ := w
  refine w_iald dX12_rootAt_16 ln1 e3 ?_
  exact w_ireturn dX12_rootAt_17 rfl rfl ⟨Nat.le_refl _, Nat.le_refl _⟩ w
set_option maxRecDepth 20000 in
set_option maxHeartbeats 4000000 in
theorem x_X12_roots {G : pm_G} {d : Nat} {post : pm_PT} {h : pm_H} {l0 : Nat} {l1 : Int32} {l2 : Int32} {l3 : Int32} {l4 : Int32} (w :
    (h.1[l0]? = some (0, 11)) ∧
    ∃ n1 : Nat, h.1[gp h l0 17]? = some (1, n1) ∧
    (vp_in (((l1 + 192) + (16 * l2)) + l3) n1) ∧
    ∀ h2 : pm_H, h2 = si h (gp h l0 17) (((l1 + 192) + (16 * l2)) + l3 : Int32).toNatClampNeg l4 →
    post none h2) :
    Wp G (m_X12_roots, d + 1, 0, 0, post) (0, 0) 0 [.ref l0, .int l1, .int l2, .int l3, .int l4] [] h := by
  refine w_aload_n dX12_roots_0 rfl ?_
  obtain ⟨e1, w⟩ := w
  refine w_getp dX12_roots_1 lk_RX12_97 e1 rfl ?_
  refine w_iload_n dX12_roots_4 rfl ?_
  refine w_sipush (v := 192) dX12_roots_5 rfl ?_
  refine w_iadd dX12_roots_8 ?_
  refine w_bipush (v := 16) dX12_roots_9 rfl ?_
  refine w_iload_n dX12_roots_11 rfl ?_
  refine w_imul dX12_roots_12 ?_
  refine w_iadd dX12_roots_13 ?_
  refine w_iload_n dX12_roots_14 rfl ?_
  refine w_iadd dX12_roots_15 ?_
  refine w_iload dX12_roots_16 rfl ?_
  obtain ⟨n1, ln1, w⟩ := w
  obtain ⟨e3, w⟩ := w
  refine w_iast dX12_roots_18 ln1 e3 ?_
  have w := w _ rfl
  exact w_return dX12_roots_19 rfl ⟨Nat.le_refl _, Nat.le_refl _⟩ w
set_option maxRecDepth 20000 in
set_option maxHeartbeats 4000000 in
theorem x_X12_isLeaf {G : pm_G} {d : Nat} {post : pm_PT} {h : pm_H} {l0 : Nat} {l1 : Int32} {l2 : Int32} (w :
    (h.1[l0]? = some (0, 11)) ∧
    ci G d m_X12_nodeOf [.ref l0, .int l1, .int l2, .int 6] h fun r1 h2 =>
    if 0 ≤ r1 then (
      post (some (.int 0)) h2
    ) else (
      (h2.1[l0]? = some (0, 11)) ∧
      ci G d m_X12_nodeOf [.ref l0, .int l1, .int l2, .int 7] h2 fun r3 h4 =>
      if 0 ≤ r3 then (
        post (some (.int 0)) h4
      ) else (
        post (some (.int 1)) h4
      )
    )) :
    Wp G (m_X12_isLeaf, d + 1, 0, 0, post) (0, 0) 0 [.ref l0, .int l1, .int l2] [] h := by
  refine w_aload_n dX12_isLeaf_0 rfl ?_
  refine w_iload_n dX12_isLeaf_1 rfl ?_
  refine w_iload_n dX12_isLeaf_2 rfl ?_
  refine w_bipush (v := 6) dX12_isLeaf_3 rfl ?_
  obtain ⟨e1, w⟩ := w
  refine w_callV (As := [.int l1, .int l2, .int 6]) (st := []) dX12_isLeaf_5 mt_X12_nodeOf g_1420 g_1422 g_59 rfl e1 rfl rfl (Nat.le_of_ble_eq_true rfl) (Nat.le_refl _) ⟨Nat.le_refl _, Nat.le_refl _⟩ w ?_
  rintro v h2 ⟨r1, rfl, w⟩
  refine w_if_ge (tgt := 26) dX12_isLeaf_8 rfl (fun c => ?_) (fun c => ?_)
  · rw [if_pos c] at w
    refine w_iconst (v := 0) dX12_isLeaf_26 rfl ?_
    exact w_ireturn dX12_isLeaf_27 rfl rfl ⟨Nat.le_refl _, Nat.le_refl _⟩ w
  · rw [if_neg c] at w
    refine w_aload_n dX12_isLeaf_11 rfl ?_
    refine w_iload_n dX12_isLeaf_12 rfl ?_
    refine w_iload_n dX12_isLeaf_13 rfl ?_
    refine w_bipush (v := 7) dX12_isLeaf_14 rfl ?_
    obtain ⟨e1, w⟩ := w
    refine w_callV (As := [.int l1, .int l2, .int 7]) (st := []) dX12_isLeaf_16 mt_X12_nodeOf g_1420 g_1422 g_59 rfl e1 rfl rfl (Nat.le_of_ble_eq_true rfl) (Nat.le_refl _) ⟨Nat.le_refl _, Nat.le_refl _⟩ w ?_
    rintro v h4 ⟨r3, rfl, w⟩
    refine w_if_ge (tgt := 26) dX12_isLeaf_19 rfl (fun c => ?_) (fun c => ?_)
    · rw [if_pos c] at w
      refine w_iconst (v := 0) dX12_isLeaf_26 rfl ?_
      exact w_ireturn dX12_isLeaf_27 rfl rfl ⟨Nat.le_refl _, Nat.le_refl _⟩ w
    · rw [if_neg c] at w
      refine w_iconst (v := 1) dX12_isLeaf_22 rfl ?_
      refine w_goto (tgt := 27) dX12_isLeaf_23 rfl ?_
      exact w_ireturn dX12_isLeaf_27 rfl rfl ⟨Nat.le_refl _, Nat.le_refl _⟩ w
set_option maxRecDepth 20000 in
set_option maxHeartbeats 4000000 in
theorem x_X12_freeNode {G : pm_G} {d : Nat} {post : pm_PT} {h : pm_H} {l0 : Nat} {l1 : Int32} (w :
    Wp G (m_X12_freeNode, d + 1, 0, 0, post) (0, 0) 2 [.ref l0, .int l1, .int 0] [] h) :
    Wp G (m_X12_freeNode, d + 1, 0, 0, post) (0, 0) 0 [.ref l0, .int l1, .null] [] h := by
  refine w_iconst (v := 0) dX12_freeNode_0 rfl ?_
  refine v_istore_n (l' := [.ref l0, .int l1, .int 0]) dX12_freeNode_1 (Nat.le_of_ble_eq_true rfl) rfl ?_
  exact w
set_option maxRecDepth 20000 in
set_option maxHeartbeats 4000000 in
theorem x_X12_freeNode_2 {G : pm_G} {d : Nat} {post : pm_PT} {h : pm_H} {l0 : Nat} {l1 : Int32} {l2 : Int32} (w :
    (h.1[l0]? = some (0, 11)) ∧
    ci G d m_X12_nodeOf [.ref l0, .int l1, .int l2, .int 0] h fun r1 h2 =>
    if r1 < 0 then (
      post (some (.int l2)) h2
    ) else (
      Wp G (m_X12_freeNode, d + 1, 0, 0, post) (0, 0) 2 [.ref l0, .int l1, .int (l2 + 1)] [] h2
    )) :
    Wp G (m_X12_freeNode, d + 1, 0, 0, post) (0, 0) 2 [.ref l0, .int l1, .int l2] [] h := by
  refine w_aload_n dX12_freeNode_2 rfl ?_
  refine w_iload_n dX12_freeNode_3 rfl ?_
  refine w_iload_n dX12_freeNode_4 rfl ?_
  refine w_iconst (v := 0) dX12_freeNode_5 rfl ?_
  obtain ⟨e1, w⟩ := w
  refine w_callV (As := [.int l1, .int l2, .int 0]) (st := []) dX12_freeNode_6 mt_X12_nodeOf g_1420 g_1422 g_59 rfl e1 rfl rfl (Nat.le_of_ble_eq_true rfl) (Nat.le_refl _) ⟨Nat.le_refl _, Nat.le_refl _⟩ w ?_
  rintro v h2 ⟨r1, rfl, w⟩
  refine w_if_lt (tgt := 18) dX12_freeNode_9 rfl (fun c => ?_) (fun c => ?_)
  · rw [if_pos c] at w
    refine w_iload_n dX12_freeNode_18 rfl ?_
    exact w_ireturn dX12_freeNode_19 rfl rfl ⟨Nat.le_refl _, Nat.le_refl _⟩ w
  · rw [if_neg c] at w
    refine v_iinc (l' := [.ref l0, .int l1, .int (l2 + 1)]) (v := l2 + 1) dX12_freeNode_12 rfl rfl (Nat.le_of_ble_eq_true rfl) rfl ?_
    refine w_goto (tgt := 2) dX12_freeNode_15 rfl ?_
    exact w
set_option maxRecDepth 20000 in
set_option maxHeartbeats 4000000 in
theorem x_X12_frees {G : pm_G} {d : Nat} {post : pm_PT} {h : pm_H} {l0 : Nat} {l1 : Int32} {l2 : Int32} (w :
    Wp G (m_X12_frees, d + 1, 0, 0, post) (0, 0) 2 [.ref l0, .int l1, .int l2, .int 0] [] h) :
    Wp G (m_X12_frees, d + 1, 0, 0, post) (0, 0) 0 [.ref l0, .int l1, .int l2, .null] [] h := by
  refine w_iconst (v := 0) dX12_frees_0 rfl ?_
  refine v_istore_n (l' := [.ref l0, .int l1, .int l2, .int 0]) dX12_frees_1 (Nat.le_of_ble_eq_true rfl) rfl ?_
  exact w
set_option maxRecDepth 20000 in
set_option maxHeartbeats 4000000 in
theorem x_X12_frees_2 {G : pm_G} {d : Nat} {post : pm_PT} {h : pm_H} {l0 : Nat} {l1 : Int32} {l2 : Int32} {l3 : Int32} (w :
    if 8 ≤ l3 then (
      post none h
    ) else (
      (h.1[l0]? = some (0, 11)) ∧
      cv G d m_X12_lays [.ref l0, .int l1, .int l2, .int l3, .int (-1)] h fun h2 =>
      Wp G (m_X12_frees, d + 1, 0, 0, post) (0, 0) 2 [.ref l0, .int l1, .int l2, .int (l3 + 1)] [] h2
    )) :
    Wp G (m_X12_frees, d + 1, 0, 0, post) (0, 0) 2 [.ref l0, .int l1, .int l2, .int l3] [] h := by
  refine w_iload_n dX12_frees_2 rfl ?_
  refine w_bipush (v := 8) dX12_frees_3 rfl ?_
  refine w_ic_ge (tgt := 22) dX12_frees_5 rfl (fun c => ?_) (fun c => ?_)
  · rw [if_pos c] at w
    exact w_return dX12_frees_22 rfl ⟨Nat.le_refl _, Nat.le_refl _⟩ w
  · rw [if_neg c] at w
    refine w_aload_n dX12_frees_8 rfl ?_
    refine w_iload_n dX12_frees_9 rfl ?_
    refine w_iload_n dX12_frees_10 rfl ?_
    refine w_iload_n dX12_frees_11 rfl ?_
    refine w_iconst (v := (-1)) dX12_frees_12 rfl ?_
    obtain ⟨e1, w⟩ := w
    refine w_callV (As := [.int l1, .int l2, .int l3, .int (-1)]) (st := []) dX12_frees_13 mt_X12_lays g_1432 g_1434 g_62 rfl e1 rfl rfl (Nat.le_of_ble_eq_true rfl) (Nat.le_refl _) ⟨Nat.le_refl _, Nat.le_refl _⟩ w ?_
    rintro v h2 ⟨rfl, w⟩
    refine v_iinc (l' := [.ref l0, .int l1, .int l2, .int (l3 + 1)]) (v := l3 + 1) dX12_frees_16 rfl rfl (Nat.le_of_ble_eq_true rfl) rfl ?_
    refine w_goto (tgt := 2) dX12_frees_19 rfl ?_
    exact w
set_option maxRecDepth 20000 in
set_option maxHeartbeats 4000000 in
theorem x_X12_makes {G : pm_G} {d : Nat} {post : pm_PT} {h : pm_H} {l0 : Nat} {l1 : Int32} {l2 : Int32} {l3 : Int32} {l4 : Int32} (w :
    (h.1[l0]? = some (0, 11)) ∧
    cv G d m_X12_frees [.ref l0, .int l1, .int l2] h fun h2 =>
    (h2.1[l0]? = some (0, 11)) ∧
    cv G d m_X12_lays [.ref l0, .int l1, .int l2, .int 0, .int l3] h2 fun h4 =>
    (h4.1[l0]? = some (0, 11)) ∧
    cv G d m_X12_lays [.ref l0, .int l1, .int l2, .int 1, .int l4] h4 fun h6 =>
    (h6.1[l0]? = some (0, 11)) ∧
    cv G d m_X12_lays [.ref l0, .int l1, .int l2, .int 2, .int 0] h6 fun h8 =>
    (h8.1[l0]? = some (0, 11)) ∧
    cv G d m_X12_lays [.ref l0, .int l1, .int l2, .int 3, .int 0] h8 fun h10 =>
    post none h10) :
    Wp G (m_X12_makes, d + 1, 0, 0, post) (0, 0) 0 [.ref l0, .int l1, .int l2, .int l3, .int l4] [] h := by
  refine w_aload_n dX12_makes_0 rfl ?_
  refine w_iload_n dX12_makes_1 rfl ?_
  refine w_iload_n dX12_makes_2 rfl ?_
  obtain ⟨e1, w⟩ := w
  refine w_callV (As := [.int l1, .int l2]) (st := []) dX12_makes_3 mt_X12_frees g_1428 g_1430 g_61 rfl e1 rfl rfl (Nat.le_of_ble_eq_true rfl) (Nat.le_refl _) ⟨Nat.le_refl _, Nat.le_refl _⟩ w ?_
  rintro v h2 ⟨rfl, w⟩
  refine w_aload_n dX12_makes_6 rfl ?_
  refine w_iload_n dX12_makes_7 rfl ?_
  refine w_iload_n dX12_makes_8 rfl ?_
  refine w_iconst (v := 0) dX12_makes_9 rfl ?_
  refine w_iload_n dX12_makes_10 rfl ?_
  obtain ⟨e1, w⟩ := w
  refine w_callV (As := [.int l1, .int l2, .int 0, .int l3]) (st := []) dX12_makes_11 mt_X12_lays g_1432 g_1434 g_62 rfl e1 rfl rfl (Nat.le_of_ble_eq_true rfl) (Nat.le_refl _) ⟨Nat.le_refl _, Nat.le_refl _⟩ w ?_
  rintro v h4 ⟨rfl, w⟩
  refine w_aload_n dX12_makes_14 rfl ?_
  refine w_iload_n dX12_makes_15 rfl ?_
  refine w_iload_n dX12_makes_16 rfl ?_
  refine w_iconst (v := 1) dX12_makes_17 rfl ?_
  refine w_iload dX12_makes_18 rfl ?_
  obtain ⟨e1, w⟩ := w
  refine w_callV (As := [.int l1, .int l2, .int 1, .int l4]) (st := []) dX12_makes_20 mt_X12_lays g_1432 g_1434 g_62 rfl e1 rfl rfl (Nat.le_of_ble_eq_true rfl) (Nat.le_refl _) ⟨Nat.le_refl _, Nat.le_refl _⟩ w ?_
  rintro v h6 ⟨rfl, w⟩
  refine w_aload_n dX12_makes_23 rfl ?_
  refine w_iload_n dX12_makes_24 rfl ?_
  refine w_iload_n dX12_makes_25 rfl ?_
  refine w_iconst (v := 2) dX12_makes_26 rfl ?_
  refine w_iconst (v := 0) dX12_makes_27 rfl ?_
  obtain ⟨e1, w⟩ := w
  refine w_callV (As := [.int l1, .int l2, .int 2, .int 0]) (st := []) dX12_makes_28 mt_X12_lays g_1432 g_1434 g_62 rfl e1 rfl rfl (Nat.le_of_ble_eq_true rfl) (Nat.le_refl _) ⟨Nat.le_refl _, Nat.le_refl _⟩ w ?_
  rintro v h8 ⟨rfl, w⟩
  refine w_aload_n dX12_makes_31 rfl ?_
  refine w_iload_n dX12_makes_32 rfl ?_
  refine w_iload_n dX12_makes_33 rfl ?_
  refine w_iconst (v := 3) dX12_makes_34 rfl ?_
  refine w_iconst (v := 0) dX12_makes_35 rfl ?_
  obtain ⟨e1, w⟩ := w
  refine w_callV (As := [.int l1, .int l2, .int 3, .int 0]) (st := []) dX12_makes_36 mt_X12_lays g_1432 g_1434 g_62 rfl e1 rfl rfl (Nat.le_of_ble_eq_true rfl) (Nat.le_refl _) ⟨Nat.le_refl _, Nat.le_refl _⟩ w ?_
  rintro v h10 ⟨rfl, w⟩
  exact w_return dX12_makes_39 rfl ⟨Nat.le_refl _, Nat.le_refl _⟩ w
set_option maxRecDepth 20000 in
set_option maxHeartbeats 4000000 in
theorem x_X12_pours {G : pm_G} {d : Nat} {post : pm_PT} {h : pm_H} {l0 : Nat} {l1 : Int32} {l2 : Int32} {l3 : Int32} (w :
    (h.1[l0]? = some (0, 11)) ∧
    ci G d m_X12_nodeOf [.ref l0, .int l1, .int l2, .int 3] h fun r1 h2 =>
    if r1 = 0 then (
      post none h2
    ) else (
      (h2.1[l0]? = some (0, 11)) ∧
      ci G d m_X12_nodeOf [.ref l0, .int l1, .int l3, .int 3] h2 fun r3 h4 =>
      if r3 = 0 then (
        (h4.1[l0]? = some (0, 11)) ∧
        ci G d m_X12_nodeOf [.ref l0, .int l1, .int l2, .int 4] h4 fun r5 h6 =>
        (h6.1[l0]? = some (0, 11)) ∧
        cv G d m_X12_lays [.ref l0, .int l1, .int l3, .int 4, .int r5] h6 fun h8 =>
        Wp G (m_X12_pours, d + 1, 0, 0, post) (0, 0) 63 [.ref l0, .int l1, .int l2, .int l3] [] h8
      ) else (
        (h4.1[l0]? = some (0, 11)) ∧
        ci G d m_X12_nodeOf [.ref l0, .int l1, .int l3, .int 5] h4 fun r9 h10 =>
        (h10.1[l0]? = some (0, 11)) ∧
        ci G d m_X12_nodeOf [.ref l0, .int l1, .int l2, .int 4] h10 fun r11 h12 =>
        ∃ n13 : Nat, h12.1[gp h4 l0 17]? = some (1, n13) ∧
        (vp_in ((l1 + 300) + r9) n13) ∧
        ∀ h14 : pm_H, h14 = si h12 (gp h4 l0 17) ((l1 + 300) + r9 : Int32).toNatClampNeg r11 →
        Wp G (m_X12_pours, d + 1, 0, 0, post) (0, 0) 63 [.ref l0, .int l1, .int l2, .int l3] [] h14
      )
    )) :
    Wp G (m_X12_pours, d + 1, 0, 0, post) (0, 0) 0 [.ref l0, .int l1, .int l2, .int l3] [] h := by
  refine w_aload_n dX12_pours_0 rfl ?_
  refine w_iload_n dX12_pours_1 rfl ?_
  refine w_iload_n dX12_pours_2 rfl ?_
  refine w_iconst (v := 3) dX12_pours_3 rfl ?_
  obtain ⟨e1, w⟩ := w
  refine w_callV (As := [.int l1, .int l2, .int 3]) (st := []) dX12_pours_4 mt_X12_nodeOf g_1420 g_1422 g_59 rfl e1 rfl rfl (Nat.le_of_ble_eq_true rfl) (Nat.le_refl _) ⟨Nat.le_refl _, Nat.le_refl _⟩ w ?_
  rintro v h2 ⟨r1, rfl, w⟩
  refine w_if_ne (tgt := 11) dX12_pours_7 rfl (fun c => ?_) (fun c => ?_)
  · rw [if_neg c] at w
    refine w_aload_n dX12_pours_11 rfl ?_
    refine w_iload_n dX12_pours_12 rfl ?_
    refine w_iload_n dX12_pours_13 rfl ?_
    refine w_iconst (v := 3) dX12_pours_14 rfl ?_
    obtain ⟨e1, w⟩ := w
    refine w_callV (As := [.int l1, .int l3, .int 3]) (st := []) dX12_pours_15 mt_X12_nodeOf g_1420 g_1422 g_59 rfl e1 rfl rfl (Nat.le_of_ble_eq_true rfl) (Nat.le_refl _) ⟨Nat.le_refl _, Nat.le_refl _⟩ w ?_
    rintro v h4 ⟨r3, rfl, w⟩
    refine w_if_ne (tgt := 38) dX12_pours_18 rfl (fun c => ?_) (fun c => ?_)
    · rw [if_neg c] at w
      refine w_aload_n dX12_pours_38 rfl ?_
      obtain ⟨e1, w⟩ := w
      refine w_getp dX12_pours_39 lk_RX12_97 e1 rfl ?_
      refine w_iload_n dX12_pours_42 rfl ?_
      refine w_sipush (v := 300) dX12_pours_43 rfl ?_
      refine w_iadd dX12_pours_46 ?_
      refine w_aload_n dX12_pours_47 rfl ?_
      refine w_iload_n dX12_pours_48 rfl ?_
      refine w_iload_n dX12_pours_49 rfl ?_
      refine w_iconst (v := 5) dX12_pours_50 rfl ?_
      refine w_callV (As := [.int l1, .int l3, .int 5]) (st := [.int (l1 + 300), .ref (gp h4 l0 17)]) dX12_pours_51 mt_X12_nodeOf g_1420 g_1422 g_59 rfl e1 rfl rfl (Nat.le_of_ble_eq_true rfl) (Nat.le_refl _) ⟨Nat.le_refl _, Nat.le_refl _⟩ w ?_
      rintro v h10 ⟨r9, rfl, w⟩
      refine w_iadd dX12_pours_54 ?_
      refine w_aload_n dX12_pours_55 rfl ?_
      refine w_iload_n dX12_pours_56 rfl ?_
      refine w_iload_n dX12_pours_57 rfl ?_
      refine w_iconst (v := 4) dX12_pours_58 rfl ?_
      obtain ⟨e1, w⟩ := w
      refine w_callV (As := [.int l1, .int l2, .int 4]) (st := [.int ((l1 + 300) + r9), .ref (gp h4 l0 17)]) dX12_pours_59 mt_X12_nodeOf g_1420 g_1422 g_59 rfl e1 rfl rfl (Nat.le_of_ble_eq_true rfl) (Nat.le_refl _) ⟨Nat.le_refl _, Nat.le_refl _⟩ w ?_
      rintro v h12 ⟨r11, rfl, w⟩
      obtain ⟨n13, ln13, w⟩ := w
      obtain ⟨e2, w⟩ := w
      refine w_iast dX12_pours_62 ln13 e2 ?_
      have w := w _ rfl
      exact w
    · rw [if_pos c] at w
      refine w_aload_n dX12_pours_21 rfl ?_
      refine w_iload_n dX12_pours_22 rfl ?_
      refine w_iload_n dX12_pours_23 rfl ?_
      refine w_iconst (v := 4) dX12_pours_24 rfl ?_
      refine w_aload_n dX12_pours_25 rfl ?_
      refine w_iload_n dX12_pours_26 rfl ?_
      refine w_iload_n dX12_pours_27 rfl ?_
      refine w_iconst (v := 4) dX12_pours_28 rfl ?_
      obtain ⟨e1, w⟩ := w
      refine w_callV (As := [.int l1, .int l2, .int 4]) (st := [.int 4, .int l3, .int l1, .ref l0]) dX12_pours_29 mt_X12_nodeOf g_1420 g_1422 g_59 rfl e1 rfl rfl (Nat.le_of_ble_eq_true rfl) (Nat.le_refl _) ⟨Nat.le_refl _, Nat.le_refl _⟩ w ?_
      rintro v h6 ⟨r5, rfl, w⟩
      obtain ⟨e1, w⟩ := w
      refine w_callV (As := [.int l1, .int l3, .int 4, .int r5]) (st := []) dX12_pours_32 mt_X12_lays g_1432 g_1434 g_62 rfl e1 rfl rfl (Nat.le_of_ble_eq_true rfl) (Nat.le_refl _) ⟨Nat.le_refl _, Nat.le_refl _⟩ w ?_
      rintro v h8 ⟨rfl, w⟩
      refine w_goto (tgt := 63) dX12_pours_35 rfl ?_
      exact w
  · rw [if_pos c] at w
    exact w_return dX12_pours_10 rfl ⟨Nat.le_refl _, Nat.le_refl _⟩ w
set_option maxRecDepth 20000 in
set_option maxHeartbeats 4000000 in
theorem x_X12_pours_63 {G : pm_G} {d : Nat} {post : pm_PT} {h : pm_H} {l0 : Nat} {l1 : Int32} {l2 : Int32} {l3 : Int32} (w :
    (h.1[l0]? = some (0, 11)) ∧
    ci G d m_X12_nodeOf [.ref l0, .int l1, .int l2, .int 5] h fun r1 h2 =>
    (h2.1[l0]? = some (0, 11)) ∧
    cv G d m_X12_lays [.ref l0, .int l1, .int l3, .int 5, .int r1] h2 fun h4 =>
    (h4.1[l0]? = some (0, 11)) ∧
    ci G d m_X12_nodeOf [.ref l0, .int l1, .int l3, .int 3] h4 fun r5 h6 =>
    (h6.1[l0]? = some (0, 11)) ∧
    ci G d m_X12_nodeOf [.ref l0, .int l1, .int l2, .int 3] h6 fun r7 h8 =>
    (h8.1[l0]? = some (0, 11)) ∧
    cv G d m_X12_lays [.ref l0, .int l1, .int l3, .int 3, .int (r5 + r7)] h8 fun h10 =>
    (h10.1[l0]? = some (0, 11)) ∧
    cv G d m_X12_lays [.ref l0, .int l1, .int l2, .int 3, .int 0] h10 fun h12 =>
    (h12.1[l0]? = some (0, 11)) ∧
    cv G d m_X12_lays [.ref l0, .int l1, .int l2, .int 4, .int (-1)] h12 fun h14 =>
    (h14.1[l0]? = some (0, 11)) ∧
    cv G d m_X12_lays [.ref l0, .int l1, .int l2, .int 5, .int (-1)] h14 fun h16 =>
    post none h16) :
    Wp G (m_X12_pours, d + 1, 0, 0, post) (0, 0) 63 [.ref l0, .int l1, .int l2, .int l3] [] h := by
  refine w_aload_n dX12_pours_63 rfl ?_
  refine w_iload_n dX12_pours_64 rfl ?_
  refine w_iload_n dX12_pours_65 rfl ?_
  refine w_iconst (v := 5) dX12_pours_66 rfl ?_
  refine w_aload_n dX12_pours_67 rfl ?_
  refine w_iload_n dX12_pours_68 rfl ?_
  refine w_iload_n dX12_pours_69 rfl ?_
  refine w_iconst (v := 5) dX12_pours_70 rfl ?_
  obtain ⟨e1, w⟩ := w
  refine w_callV (As := [.int l1, .int l2, .int 5]) (st := [.int 5, .int l3, .int l1, .ref l0]) dX12_pours_71 mt_X12_nodeOf g_1420 g_1422 g_59 rfl e1 rfl rfl (Nat.le_of_ble_eq_true rfl) (Nat.le_refl _) ⟨Nat.le_refl _, Nat.le_refl _⟩ w ?_
  rintro v h2 ⟨r1, rfl, w⟩
  obtain ⟨e1, w⟩ := w
  refine w_callV (As := [.int l1, .int l3, .int 5, .int r1]) (st := []) dX12_pours_74 mt_X12_lays g_1432 g_1434 g_62 rfl e1 rfl rfl (Nat.le_of_ble_eq_true rfl) (Nat.le_refl _) ⟨Nat.le_refl _, Nat.le_refl _⟩ w ?_
  rintro v h4 ⟨rfl, w⟩
  refine w_aload_n dX12_pours_77 rfl ?_
  refine w_iload_n dX12_pours_78 rfl ?_
  refine w_iload_n dX12_pours_79 rfl ?_
  refine w_iconst (v := 3) dX12_pours_80 rfl ?_
  refine w_aload_n dX12_pours_81 rfl ?_
  refine w_iload_n dX12_pours_82 rfl ?_
  refine w_iload_n dX12_pours_83 rfl ?_
  refine w_iconst (v := 3) dX12_pours_84 rfl ?_
  obtain ⟨e1, w⟩ := w
  refine w_callV (As := [.int l1, .int l3, .int 3]) (st := [.int 3, .int l3, .int l1, .ref l0]) dX12_pours_85 mt_X12_nodeOf g_1420 g_1422 g_59 rfl e1 rfl rfl (Nat.le_of_ble_eq_true rfl) (Nat.le_refl _) ⟨Nat.le_refl _, Nat.le_refl _⟩ w ?_
  rintro v h6 ⟨r5, rfl, w⟩
  refine w_aload_n dX12_pours_88 rfl ?_
  refine w_iload_n dX12_pours_89 rfl ?_
  refine w_iload_n dX12_pours_90 rfl ?_
  refine w_iconst (v := 3) dX12_pours_91 rfl ?_
  obtain ⟨e1, w⟩ := w
  refine w_callV (As := [.int l1, .int l2, .int 3]) (st := [.int r5, .int 3, .int l3, .int l1, .ref l0]) dX12_pours_92 mt_X12_nodeOf g_1420 g_1422 g_59 rfl e1 rfl rfl (Nat.le_of_ble_eq_true rfl) (Nat.le_refl _) ⟨Nat.le_refl _, Nat.le_refl _⟩ w ?_
  rintro v h8 ⟨r7, rfl, w⟩
  refine w_iadd dX12_pours_95 ?_
  obtain ⟨e1, w⟩ := w
  refine w_callV (As := [.int l1, .int l3, .int 3, .int (r5 + r7)]) (st := []) dX12_pours_96 mt_X12_lays g_1432 g_1434 g_62 rfl e1 rfl rfl (Nat.le_of_ble_eq_true rfl) (Nat.le_refl _) ⟨Nat.le_refl _, Nat.le_refl _⟩ w ?_
  rintro v h10 ⟨rfl, w⟩
  refine w_aload_n dX12_pours_99 rfl ?_
  refine w_iload_n dX12_pours_100 rfl ?_
  refine w_iload_n dX12_pours_101 rfl ?_
  refine w_iconst (v := 3) dX12_pours_102 rfl ?_
  refine w_iconst (v := 0) dX12_pours_103 rfl ?_
  obtain ⟨e1, w⟩ := w
  refine w_callV (As := [.int l1, .int l2, .int 3, .int 0]) (st := []) dX12_pours_104 mt_X12_lays g_1432 g_1434 g_62 rfl e1 rfl rfl (Nat.le_of_ble_eq_true rfl) (Nat.le_refl _) ⟨Nat.le_refl _, Nat.le_refl _⟩ w ?_
  rintro v h12 ⟨rfl, w⟩
  refine w_aload_n dX12_pours_107 rfl ?_
  refine w_iload_n dX12_pours_108 rfl ?_
  refine w_iload_n dX12_pours_109 rfl ?_
  refine w_iconst (v := 4) dX12_pours_110 rfl ?_
  refine w_iconst (v := (-1)) dX12_pours_111 rfl ?_
  obtain ⟨e1, w⟩ := w
  refine w_callV (As := [.int l1, .int l2, .int 4, .int (-1)]) (st := []) dX12_pours_112 mt_X12_lays g_1432 g_1434 g_62 rfl e1 rfl rfl (Nat.le_of_ble_eq_true rfl) (Nat.le_refl _) ⟨Nat.le_refl _, Nat.le_refl _⟩ w ?_
  rintro v h14 ⟨rfl, w⟩
  refine w_aload_n dX12_pours_115 rfl ?_
  refine w_iload_n dX12_pours_116 rfl ?_
  refine w_iload_n dX12_pours_117 rfl ?_
  refine w_iconst (v := 5) dX12_pours_118 rfl ?_
  refine w_iconst (v := (-1)) dX12_pours_119 rfl ?_
  obtain ⟨e1, w⟩ := w
  refine w_callV (As := [.int l1, .int l2, .int 5, .int (-1)]) (st := []) dX12_pours_120 mt_X12_lays g_1432 g_1434 g_62 rfl e1 rfl rfl (Nat.le_of_ble_eq_true rfl) (Nat.le_refl _) ⟨Nat.le_refl _, Nat.le_refl _⟩ w ?_
  rintro v h16 ⟨rfl, w⟩
  exact w_return dX12_pours_123 rfl ⟨Nat.le_refl _, Nat.le_refl _⟩ w
