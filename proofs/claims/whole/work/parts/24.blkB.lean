set_option linter.all false
set_option maxRecDepth 20000 in
set_option maxHeartbeats 4000000 in
theorem x_X2_readLaw {G : pm_G} {d : Nat} {post : pm_PT} {h : pm_H} {l0 : Nat} {l1 : Nat} (w :
    (h.1[l0]? = some (0, 2)) ∧
    ∀ h1 : pm_H, h1 = si h l0 2 0 →
    ∀ h2 : pm_H, h2 = si h1 l0 3 0 →
    ∀ h3 : pm_H, h3 = si h2 l0 4 0 →
    ∀ h4 : pm_H, h4 = si h3 l0 5 1 →
    Wp G (m_X2_readLaw, d + 1, 0, 0, post) (0, 0) 22 [.ref l0, .ref l1, .int 0, .null] [] h4) :
    Wp G (m_X2_readLaw, d + 1, 0, 0, post) (0, 0) 0 [.ref l0, .ref l1, .null, .null] [] h := by
  refine w_aload_n dX2_readLaw_0 rfl ?_
  refine w_iconst (v := 0) dX2_readLaw_1 rfl ?_
  obtain ⟨e1, w⟩ := w
  refine w_puti dX2_readLaw_2 lk_RX2_18 e1 rfl (Or.inl rfl) ?_
  have w := w _ rfl
  refine w_aload_n dX2_readLaw_5 rfl ?_
  refine w_iconst (v := 0) dX2_readLaw_6 rfl ?_
  refine w_puti dX2_readLaw_7 lk_RX2_22 e1 rfl (Or.inl rfl) ?_
  have w := w _ rfl
  refine w_aload_n dX2_readLaw_10 rfl ?_
  refine w_iconst (v := 0) dX2_readLaw_11 rfl ?_
  refine w_puti dX2_readLaw_12 lk_RX2_25 e1 rfl (Or.inl rfl) ?_
  have w := w _ rfl
  refine w_aload_n dX2_readLaw_15 rfl ?_
  refine w_iconst (v := 1) dX2_readLaw_16 rfl ?_
  refine w_putz dX2_readLaw_17 lk_RX2_28 e1 rfl (Or.inl rfl) (by decide) ?_
  have w := w _ rfl
  refine w_iconst (v := 0) dX2_readLaw_20 rfl ?_
  refine v_istore_n (l' := [.ref l0, .ref l1, .int 0, .null]) dX2_readLaw_21 (Nat.le_of_ble_eq_true rfl) rfl ?_
  exact w
set_option maxRecDepth 20000 in
set_option maxHeartbeats 4000000 in
theorem x_X2_readLaw_22 {G : pm_G} {d : Nat} {post : pm_PT} {h : pm_H} {l0 : Nat} {l1 : Nat} {l2 : Int32} (w :
    if 1000 < l2 then (
      post (some (.int 1)) h
    ) else (
      (h.1[l0]? = some (0, 2)) ∧
      if (gi h l0 5) = 0 then (
        if (gi h l0 4) = 0 then (
          (h.1[gp h l0 0]? = some (0, 7)) ∧
          if (gi h (gp h l0 0) 8) = 59 then (
            cv G d m_X2_settle [.ref l0, .ref l1, .int 1] h fun h2 =>
            post (some (.int 0)) h2
          ) else (
            Wp G (m_X2_readLaw, d + 1, 0, 0, post) (0, 0) 63 [.ref l0, .ref l1, .int l2, .null] [] h
          )
        ) else (
          Wp G (m_X2_readLaw, d + 1, 0, 0, post) (0, 0) 63 [.ref l0, .ref l1, .int l2, .null] [] h
        )
      ) else (
        Wp G (m_X2_readLaw, d + 1, 0, 0, post) (0, 0) 63 [.ref l0, .ref l1, .int l2, .null] [] h
      )
    )) :
    Wp G (m_X2_readLaw, d + 1, 0, 0, post) (0, 0) 22 [.ref l0, .ref l1, .int l2, .null] [] h := by
  refine w_iload_n dX2_readLaw_22 rfl ?_
  refine w_sipush (v := 1000) dX2_readLaw_23 rfl ?_
  refine w_ic_gt (tgt := 103) dX2_readLaw_26 rfl (fun c => ?_) (fun c => ?_)
  · rw [if_pos c] at w
    refine w_iconst (v := 1) dX2_readLaw_103 rfl ?_
    exact w_ireturn dX2_readLaw_104 rfl rfl ⟨Nat.le_refl _, Nat.le_refl _⟩ w
  · rw [if_neg c] at w
    refine w_aload_n dX2_readLaw_29 rfl ?_
    obtain ⟨e1, w⟩ := w
    refine w_getz dX2_readLaw_30 lk_RX2_28 e1 rfl ?_
    refine w_if_ne (tgt := 63) dX2_readLaw_33 rfl (fun c => ?_) (fun c => ?_)
    · rw [if_neg c] at w
      exact w
    · rw [if_pos c] at w
      refine w_aload_n dX2_readLaw_36 rfl ?_
      refine w_geti dX2_readLaw_37 lk_RX2_25 e1 rfl ?_
      refine w_if_ne (tgt := 63) dX2_readLaw_40 rfl (fun c => ?_) (fun c => ?_)
      · rw [if_neg c] at w
        exact w
      · rw [if_pos c] at w
        refine w_aload_n dX2_readLaw_43 rfl ?_
        refine w_getp dX2_readLaw_44 lk_RX2_32 e1 rfl ?_
        obtain ⟨e2, w⟩ := w
        refine w_geti dX2_readLaw_47 lk_RX2_38 e2 rfl ?_
        refine w_bipush (v := 59) dX2_readLaw_50 rfl ?_
        refine w_ic_ne (tgt := 63) dX2_readLaw_52 rfl (fun c => ?_) (fun c => ?_)
        · rw [if_neg c] at w
          exact w
        · rw [if_pos c] at w
          refine w_aload_n dX2_readLaw_55 rfl ?_
          refine w_aload_n dX2_readLaw_56 rfl ?_
          refine w_iconst (v := 1) dX2_readLaw_57 rfl ?_
          refine w_callV (As := [.ref l1, .int 1]) (st := []) dX2_readLaw_58 mt_X2_settle g_719 g_721 g_19 rfl e1 rfl rfl (Nat.le_of_ble_eq_true rfl) (Nat.le_refl _) ⟨Nat.le_refl _, Nat.le_refl _⟩ w ?_
          rintro v h2 ⟨rfl, w⟩
          refine w_iconst (v := 0) dX2_readLaw_61 rfl ?_
          exact w_ireturn dX2_readLaw_62 rfl rfl ⟨Nat.le_refl _, Nat.le_refl _⟩ w
set_option maxRecDepth 20000 in
set_option maxHeartbeats 4000000 in
theorem x_X2_readLaw_63 {G : pm_G} {d : Nat} {post : pm_PT} {h : pm_H} {l0 : Nat} {l1 : Nat} {l2 : Int32} (w :
    (h.1[l0]? = some (0, 2)) ∧
    if (gi h l0 5) = 0 then (
      ci G d m_X2_readJoin [.ref l0, .ref l1] h fun r1 h2 =>
      if r1 = 0 then (
        (h2.1[l0]? = some (0, 2)) ∧
        (h2.1[gp h2 l0 0]? = some (0, 7)) ∧
        cv G d m_X7_next [.ref (gp h2 l0 0)] h2 fun h4 =>
        Wp G (m_X2_readLaw, d + 1, 0, 0, post) (0, 0) 22 [.ref l0, .ref l1, .int (l2 + 1), .null] [] h4
      ) else (
        post (some (.int r1)) h2
      )
    ) else (
      ci G d m_X2_readPart [.ref l0, .ref l1] h fun r5 h6 =>
      if r5 = 0 then (
        (h6.1[l0]? = some (0, 2)) ∧
        (h6.1[gp h6 l0 0]? = some (0, 7)) ∧
        cv G d m_X7_next [.ref (gp h6 l0 0)] h6 fun h8 =>
        Wp G (m_X2_readLaw, d + 1, 0, 0, post) (0, 0) 22 [.ref l0, .ref l1, .int (l2 + 1), .null] [] h8
      ) else (
        post (some (.int r5)) h6
      )
    )) :
    Wp G (m_X2_readLaw, d + 1, 0, 0, post) (0, 0) 63 [.ref l0, .ref l1, .int l2, .null] [] h := by
  refine w_aload_n dX2_readLaw_63 rfl ?_
  obtain ⟨e1, w⟩ := w
  refine w_getz dX2_readLaw_64 lk_RX2_28 e1 rfl ?_
  refine w_if_eq (tgt := 78) dX2_readLaw_67 rfl (fun c => ?_) (fun c => ?_)
  · rw [if_pos c] at w
    refine w_aload_n dX2_readLaw_78 rfl ?_
    refine w_aload_n dX2_readLaw_79 rfl ?_
    refine w_callV (As := [.ref l1]) (st := []) dX2_readLaw_80 mt_X2_readJoin g_753 g_755 g_23 rfl e1 rfl rfl (Nat.le_of_ble_eq_true rfl) (Nat.le_refl _) ⟨Nat.le_refl _, Nat.le_refl _⟩ w ?_
    rintro v h2 ⟨r1, rfl, w⟩
    refine v_istore_n (l' := [.ref l0, .ref l1, .int l2, .int r1]) dX2_readLaw_83 (Nat.le_of_ble_eq_true rfl) rfl ?_
    refine w_iload_n dX2_readLaw_84 rfl ?_
    refine w_if_eq (tgt := 90) dX2_readLaw_85 rfl (fun c => ?_) (fun c => ?_)
    · rw [if_pos c] at w
      refine w_aload_n dX2_readLaw_90 rfl ?_
      obtain ⟨e1, w⟩ := w
      refine w_getp dX2_readLaw_91 lk_RX2_32 e1 rfl ?_
      obtain ⟨e2, w⟩ := w
      refine w_callV (As := []) (st := []) dX2_readLaw_94 mt_X7_next g_765 g_574 g_575 rfl e2 rfl rfl (Nat.le_of_ble_eq_true rfl) (Nat.le_refl _) ⟨Nat.le_refl _, Nat.le_refl _⟩ w ?_
      rintro v h4 ⟨rfl, w⟩
      refine v_iinc (l' := [.ref l0, .ref l1, .int (l2 + 1), .int r1]) (v := l2 + 1) dX2_readLaw_97 rfl rfl (Nat.le_of_ble_eq_true rfl) rfl ?_
      refine w_goto (tgt := 22) dX2_readLaw_100 rfl ?_
      exact w_drop (l' := [.ref l0, .ref l1, .int (l2 + 1), .null]) ⟨Or.inr rfl, Or.inr rfl, Or.inr rfl, Or.inl rfl, trivial⟩ w
    · rw [if_neg c] at w
      refine w_iload_n dX2_readLaw_88 rfl ?_
      exact w_ireturn dX2_readLaw_89 rfl rfl ⟨Nat.le_refl _, Nat.le_refl _⟩ w
  · rw [if_neg c] at w
    refine w_aload_n dX2_readLaw_70 rfl ?_
    refine w_aload_n dX2_readLaw_71 rfl ?_
    refine w_callV (As := [.ref l1]) (st := []) dX2_readLaw_72 mt_X2_readPart g_738 g_740 g_20 rfl e1 rfl rfl (Nat.le_of_ble_eq_true rfl) (Nat.le_refl _) ⟨Nat.le_refl _, Nat.le_refl _⟩ w ?_
    rintro v h6 ⟨r5, rfl, w⟩
    refine w_goto (tgt := 83) dX2_readLaw_75 rfl ?_
    refine v_istore_n (l' := [.ref l0, .ref l1, .int l2, .int r5]) dX2_readLaw_83 (Nat.le_of_ble_eq_true rfl) rfl ?_
    refine w_iload_n dX2_readLaw_84 rfl ?_
    refine w_if_eq (tgt := 90) dX2_readLaw_85 rfl (fun c => ?_) (fun c => ?_)
    · rw [if_pos c] at w
      refine w_aload_n dX2_readLaw_90 rfl ?_
      obtain ⟨e1, w⟩ := w
      refine w_getp dX2_readLaw_91 lk_RX2_32 e1 rfl ?_
      obtain ⟨e2, w⟩ := w
      refine w_callV (As := []) (st := []) dX2_readLaw_94 mt_X7_next g_765 g_574 g_575 rfl e2 rfl rfl (Nat.le_of_ble_eq_true rfl) (Nat.le_refl _) ⟨Nat.le_refl _, Nat.le_refl _⟩ w ?_
      rintro v h8 ⟨rfl, w⟩
      refine v_iinc (l' := [.ref l0, .ref l1, .int (l2 + 1), .int r5]) (v := l2 + 1) dX2_readLaw_97 rfl rfl (Nat.le_of_ble_eq_true rfl) rfl ?_
      refine w_goto (tgt := 22) dX2_readLaw_100 rfl ?_
      exact w_drop (l' := [.ref l0, .ref l1, .int (l2 + 1), .null]) ⟨Or.inr rfl, Or.inr rfl, Or.inr rfl, Or.inl rfl, trivial⟩ w
    · rw [if_neg c] at w
      refine w_iload_n dX2_readLaw_88 rfl ?_
      exact w_ireturn dX2_readLaw_89 rfl rfl ⟨Nat.le_refl _, Nat.le_refl _⟩ w
set_option maxRecDepth 20000 in
set_option maxHeartbeats 4000000 in
theorem x_X2_readPart {G : pm_G} {d : Nat} {post : pm_PT} {h : pm_H} {l0 : Nat} {l1 : Nat} (w :
    (h.1[l0]? = some (0, 2)) ∧
    (h.1[gp h l0 0]? = some (0, 7)) ∧
    if (gi h (gp h l0 0) 8) = 40 then (
      ∃ i1 : Nat, i1 < 22 ∧ (gp h (gp h l0 0) 5) = 1000 + i1 ∧
      if i1 = 16 then (
        if (gi h (gp h l0 0) 3) = 2 then (
          ∃ (i2 : Nat) (w3 : String × Int64 × Int32 × Int32 × Int32), pm_wd[i2]? = some w3 ∧ (gp h (gp h l0 0) 5) = 1000 + i2 ∧
          Wp G (m_X2_readPart, d + 1, 0, 0, post) (0, 0) 87 [.ref l0, .ref l1, .int 1, .int 1, .int 1, .int w3.2.2.2.2] [] h
        ) else (
          ∃ (i4 : Nat) (w5 : String × Int64 × Int32 × Int32 × Int32), pm_wd[i4]? = some w5 ∧ (gp h (gp h l0 0) 5) = 1000 + i4 ∧
          Wp G (m_X2_readPart, d + 1, 0, 0, post) (0, 0) 87 [.ref l0, .ref l1, .int 1, .int 1, .int 0, .int w5.2.2.2.2] [] h
        )
      ) else (
        if (gi h (gp h l0 0) 3) = 2 then (
          ∃ (i6 : Nat) (w7 : String × Int64 × Int32 × Int32 × Int32), pm_wd[i6]? = some w7 ∧ (gp h (gp h l0 0) 5) = 1000 + i6 ∧
          Wp G (m_X2_readPart, d + 1, 0, 0, post) (0, 0) 87 [.ref l0, .ref l1, .int 1, .int 0, .int 1, .int w7.2.2.2.2] [] h
        ) else (
          ∃ (i8 : Nat) (w9 : String × Int64 × Int32 × Int32 × Int32), pm_wd[i8]? = some w9 ∧ (gp h (gp h l0 0) 5) = 1000 + i8 ∧
          Wp G (m_X2_readPart, d + 1, 0, 0, post) (0, 0) 87 [.ref l0, .ref l1, .int 1, .int 0, .int 0, .int w9.2.2.2.2] [] h
        )
      )
    ) else (
      ∃ i10 : Nat, i10 < 22 ∧ (gp h (gp h l0 0) 5) = 1000 + i10 ∧
      if i10 = 16 then (
        if (gi h (gp h l0 0) 3) = 2 then (
          ∃ (i11 : Nat) (w12 : String × Int64 × Int32 × Int32 × Int32), pm_wd[i11]? = some w12 ∧ (gp h (gp h l0 0) 5) = 1000 + i11 ∧
          Wp G (m_X2_readPart, d + 1, 0, 0, post) (0, 0) 87 [.ref l0, .ref l1, .int 0, .int 1, .int 1, .int w12.2.2.2.2] [] h
        ) else (
          ∃ (i13 : Nat) (w14 : String × Int64 × Int32 × Int32 × Int32), pm_wd[i13]? = some w14 ∧ (gp h (gp h l0 0) 5) = 1000 + i13 ∧
          Wp G (m_X2_readPart, d + 1, 0, 0, post) (0, 0) 87 [.ref l0, .ref l1, .int 0, .int 1, .int 0, .int w14.2.2.2.2] [] h
        )
      ) else (
        if (gi h (gp h l0 0) 3) = 2 then (
          ∃ (i15 : Nat) (w16 : String × Int64 × Int32 × Int32 × Int32), pm_wd[i15]? = some w16 ∧ (gp h (gp h l0 0) 5) = 1000 + i15 ∧
          Wp G (m_X2_readPart, d + 1, 0, 0, post) (0, 0) 87 [.ref l0, .ref l1, .int 0, .int 0, .int 1, .int w16.2.2.2.2] [] h
        ) else (
          ∃ (i17 : Nat) (w18 : String × Int64 × Int32 × Int32 × Int32), pm_wd[i17]? = some w18 ∧ (gp h (gp h l0 0) 5) = 1000 + i17 ∧
          if w18.2.2.2.2 = 0 then (
            post (some (.int 1)) h
          ) else (
            Wp G (m_X2_readPart, d + 1, 0, 0, post) (0, 0) 87 [.ref l0, .ref l1, .int 0, .int 0, .int 0, .int w18.2.2.2.2] [] h
          )
        )
      )
    )) :
    Wp G (m_X2_readPart, d + 1, 0, 0, post) (0, 0) 0 [.ref l0, .ref l1, .null, .null, .null, .null] [] h := by
  refine w_aload_n dX2_readPart_0 rfl ?_
  obtain ⟨e1, w⟩ := w
  refine w_getp dX2_readPart_1 lk_RX2_32 e1 rfl ?_
  obtain ⟨e2, w⟩ := w
  refine w_geti dX2_readPart_4 lk_RX2_38 e2 rfl ?_
  refine w_bipush (v := 40) dX2_readPart_7 rfl ?_
  refine w_ic_ne (tgt := 16) dX2_readPart_9 rfl (fun c => ?_) (fun c => ?_)
  · rw [if_neg c] at w
    refine w_iconst (v := 0) dX2_readPart_16 rfl ?_
    refine v_istore_n (l' := [.ref l0, .ref l1, .int 0, .null, .null, .null]) dX2_readPart_17 (Nat.le_of_ble_eq_true rfl) rfl ?_
    refine w_aload_n dX2_readPart_18 rfl ?_
    refine w_getp dX2_readPart_19 lk_RX2_32 e1 rfl ?_
    refine w_getp dX2_readPart_22 lk_RX2_57 e2 rfl ?_
    refine w_getw (i := 16) dX2_readPart_25 rfl g_742 ?_
    obtain ⟨i10, li10, qi10, w⟩ := w
    refine v_acmp_ne (tgt := 35) (i := i10) (j := 16) dX2_readPart_28 rfl qi10 rfl li10 (by decide) (fun c => ?_) (fun c => ?_)
    · rw [if_neg c] at w
      refine w_iconst (v := 0) dX2_readPart_35 rfl ?_
      refine v_istore_n (l' := [.ref l0, .ref l1, .int 0, .int 0, .null, .null]) dX2_readPart_36 (Nat.le_of_ble_eq_true rfl) rfl ?_
      refine w_aload_n dX2_readPart_37 rfl ?_
      refine w_getp dX2_readPart_38 lk_RX2_32 e1 rfl ?_
      refine w_geti dX2_readPart_41 lk_RX2_66 e2 rfl ?_
      refine w_iconst (v := 2) dX2_readPart_44 rfl ?_
      refine w_ic_ne (tgt := 52) dX2_readPart_45 rfl (fun c => ?_) (fun c => ?_)
      · rw [if_neg c] at w
        refine w_iconst (v := 0) dX2_readPart_52 rfl ?_
        refine v_istore (l' := [.ref l0, .ref l1, .int 0, .int 0, .int 0, .null]) dX2_readPart_53 (Nat.le_of_ble_eq_true rfl) rfl ?_
        refine w_aload_n dX2_readPart_55 rfl ?_
        refine w_getp dX2_readPart_56 lk_RX2_32 e1 rfl ?_
        refine w_getp dX2_readPart_59 lk_RX2_57 e2 rfl ?_
        obtain ⟨i17, w18, li17, qi17, w⟩ := w
        refine v_wfact (x := gp h (gp h l0 0) 5) dX2_readPart_62 li17 qi17 (Or.inr ⟨_, g_1980⟩) ?_
        refine v_istore (l' := [.ref l0, .ref l1, .int 0, .int 0, .int 0, .int w18.2.2.2.2]) dX2_readPart_65 (Nat.le_of_ble_eq_true rfl) rfl ?_
        refine w_iload_n dX2_readPart_67 rfl ?_
        refine w_if_ne (tgt := 87) dX2_readPart_68 rfl (fun c => ?_) (fun c => ?_)
        · exact absurd c (by decide)
        · refine w_iload_n dX2_readPart_71 rfl ?_
          refine w_if_ne (tgt := 87) dX2_readPart_72 rfl (fun c => ?_) (fun c => ?_)
          · exact absurd c (by decide)
          · refine w_iload dX2_readPart_75 rfl ?_
            refine w_if_ne (tgt := 87) dX2_readPart_77 rfl (fun c => ?_) (fun c => ?_)
            · exact absurd c (by decide)
            · refine w_iload dX2_readPart_80 rfl ?_
              refine w_if_ne (tgt := 87) dX2_readPart_82 rfl (fun c => ?_) (fun c => ?_)
              · rw [if_neg c] at w
                exact w
              · rw [if_pos c] at w
                refine w_iconst (v := 1) dX2_readPart_85 rfl ?_
                exact w_ireturn dX2_readPart_86 rfl rfl ⟨Nat.le_refl _, Nat.le_refl _⟩ w
      · rw [if_pos c] at w
        refine w_iconst (v := 1) dX2_readPart_48 rfl ?_
        refine w_goto (tgt := 53) dX2_readPart_49 rfl ?_
        refine v_istore (l' := [.ref l0, .ref l1, .int 0, .int 0, .int 1, .null]) dX2_readPart_53 (Nat.le_of_ble_eq_true rfl) rfl ?_
        refine w_aload_n dX2_readPart_55 rfl ?_
        refine w_getp dX2_readPart_56 lk_RX2_32 e1 rfl ?_
        refine w_getp dX2_readPart_59 lk_RX2_57 e2 rfl ?_
        obtain ⟨i15, w16, li15, qi15, w⟩ := w
        refine v_wfact (x := gp h (gp h l0 0) 5) dX2_readPart_62 li15 qi15 (Or.inr ⟨_, g_1980⟩) ?_
        refine v_istore (l' := [.ref l0, .ref l1, .int 0, .int 0, .int 1, .int w16.2.2.2.2]) dX2_readPart_65 (Nat.le_of_ble_eq_true rfl) rfl ?_
        refine w_iload_n dX2_readPart_67 rfl ?_
        refine w_if_ne (tgt := 87) dX2_readPart_68 rfl (fun c => ?_) (fun c => ?_)
        · exact absurd c (by decide)
        · refine w_iload_n dX2_readPart_71 rfl ?_
          refine w_if_ne (tgt := 87) dX2_readPart_72 rfl (fun c => ?_) (fun c => ?_)
          · exact absurd c (by decide)
          · refine w_iload dX2_readPart_75 rfl ?_
            refine w_if_ne (tgt := 87) dX2_readPart_77 rfl (fun c => ?_) (fun c => ?_)
            · exact w
            · exact absurd c (by decide)
    · rw [if_pos c] at w
      refine w_iconst (v := 1) dX2_readPart_31 rfl ?_
      refine w_goto (tgt := 36) dX2_readPart_32 rfl ?_
      refine v_istore_n (l' := [.ref l0, .ref l1, .int 0, .int 1, .null, .null]) dX2_readPart_36 (Nat.le_of_ble_eq_true rfl) rfl ?_
      refine w_aload_n dX2_readPart_37 rfl ?_
      refine w_getp dX2_readPart_38 lk_RX2_32 e1 rfl ?_
      refine w_geti dX2_readPart_41 lk_RX2_66 e2 rfl ?_
      refine w_iconst (v := 2) dX2_readPart_44 rfl ?_
      refine w_ic_ne (tgt := 52) dX2_readPart_45 rfl (fun c => ?_) (fun c => ?_)
      · rw [if_neg c] at w
        refine w_iconst (v := 0) dX2_readPart_52 rfl ?_
        refine v_istore (l' := [.ref l0, .ref l1, .int 0, .int 1, .int 0, .null]) dX2_readPart_53 (Nat.le_of_ble_eq_true rfl) rfl ?_
        refine w_aload_n dX2_readPart_55 rfl ?_
        refine w_getp dX2_readPart_56 lk_RX2_32 e1 rfl ?_
        refine w_getp dX2_readPart_59 lk_RX2_57 e2 rfl ?_
        obtain ⟨i13, w14, li13, qi13, w⟩ := w
        refine v_wfact (x := gp h (gp h l0 0) 5) dX2_readPart_62 li13 qi13 (Or.inr ⟨_, g_1980⟩) ?_
        refine v_istore (l' := [.ref l0, .ref l1, .int 0, .int 1, .int 0, .int w14.2.2.2.2]) dX2_readPart_65 (Nat.le_of_ble_eq_true rfl) rfl ?_
        refine w_iload_n dX2_readPart_67 rfl ?_
        refine w_if_ne (tgt := 87) dX2_readPart_68 rfl (fun c => ?_) (fun c => ?_)
        · exact absurd c (by decide)
        · refine w_iload_n dX2_readPart_71 rfl ?_
          refine w_if_ne (tgt := 87) dX2_readPart_72 rfl (fun c => ?_) (fun c => ?_)
          · exact w
          · exact absurd c (by decide)
      · rw [if_pos c] at w
        refine w_iconst (v := 1) dX2_readPart_48 rfl ?_
        refine w_goto (tgt := 53) dX2_readPart_49 rfl ?_
        refine v_istore (l' := [.ref l0, .ref l1, .int 0, .int 1, .int 1, .null]) dX2_readPart_53 (Nat.le_of_ble_eq_true rfl) rfl ?_
        refine w_aload_n dX2_readPart_55 rfl ?_
        refine w_getp dX2_readPart_56 lk_RX2_32 e1 rfl ?_
        refine w_getp dX2_readPart_59 lk_RX2_57 e2 rfl ?_
        obtain ⟨i11, w12, li11, qi11, w⟩ := w
        refine v_wfact (x := gp h (gp h l0 0) 5) dX2_readPart_62 li11 qi11 (Or.inr ⟨_, g_1980⟩) ?_
        refine v_istore (l' := [.ref l0, .ref l1, .int 0, .int 1, .int 1, .int w12.2.2.2.2]) dX2_readPart_65 (Nat.le_of_ble_eq_true rfl) rfl ?_
        refine w_iload_n dX2_readPart_67 rfl ?_
        refine w_if_ne (tgt := 87) dX2_readPart_68 rfl (fun c => ?_) (fun c => ?_)
        · exact absurd c (by decide)
        · refine w_iload_n dX2_readPart_71 rfl ?_
          refine w_if_ne (tgt := 87) dX2_readPart_72 rfl (fun c => ?_) (fun c => ?_)
          · exact w
          · exact absurd c (by decide)
  · rw [if_pos c] at w
    refine w_iconst (v := 1) dX2_readPart_12 rfl ?_
    refine w_goto (tgt := 17) dX2_readPart_13 rfl ?_
    refine v_istore_n (l' := [.ref l0, .ref l1, .int 1, .null, .null, .null]) dX2_readPart_17 (Nat.le_of_ble_eq_true rfl) rfl ?_
    refine w_aload_n dX2_readPart_18 rfl ?_
    refine w_getp dX2_readPart_19 lk_RX2_32 e1 rfl ?_
    refine w_getp dX2_readPart_22 lk_RX2_57 e2 rfl ?_
    refine w_getw (i := 16) dX2_readPart_25 rfl g_742 ?_
    obtain ⟨i1, li1, qi1, w⟩ := w
    refine v_acmp_ne (tgt := 35) (i := i1) (j := 16) dX2_readPart_28 rfl qi1 rfl li1 (by decide) (fun c => ?_) (fun c => ?_)
    · rw [if_neg c] at w
      refine w_iconst (v := 0) dX2_readPart_35 rfl ?_
      refine v_istore_n (l' := [.ref l0, .ref l1, .int 1, .int 0, .null, .null]) dX2_readPart_36 (Nat.le_of_ble_eq_true rfl) rfl ?_
      refine w_aload_n dX2_readPart_37 rfl ?_
      refine w_getp dX2_readPart_38 lk_RX2_32 e1 rfl ?_
      refine w_geti dX2_readPart_41 lk_RX2_66 e2 rfl ?_
      refine w_iconst (v := 2) dX2_readPart_44 rfl ?_
      refine w_ic_ne (tgt := 52) dX2_readPart_45 rfl (fun c => ?_) (fun c => ?_)
      · rw [if_neg c] at w
        refine w_iconst (v := 0) dX2_readPart_52 rfl ?_
        refine v_istore (l' := [.ref l0, .ref l1, .int 1, .int 0, .int 0, .null]) dX2_readPart_53 (Nat.le_of_ble_eq_true rfl) rfl ?_
        refine w_aload_n dX2_readPart_55 rfl ?_
        refine w_getp dX2_readPart_56 lk_RX2_32 e1 rfl ?_
        refine w_getp dX2_readPart_59 lk_RX2_57 e2 rfl ?_
        obtain ⟨i8, w9, li8, qi8, w⟩ := w
        refine v_wfact (x := gp h (gp h l0 0) 5) dX2_readPart_62 li8 qi8 (Or.inr ⟨_, g_1980⟩) ?_
        refine v_istore (l' := [.ref l0, .ref l1, .int 1, .int 0, .int 0, .int w9.2.2.2.2]) dX2_readPart_65 (Nat.le_of_ble_eq_true rfl) rfl ?_
        refine w_iload_n dX2_readPart_67 rfl ?_
        refine w_if_ne (tgt := 87) dX2_readPart_68 rfl (fun c => ?_) (fun c => ?_)
        · exact w
        · exact absurd c (by decide)
      · rw [if_pos c] at w
        refine w_iconst (v := 1) dX2_readPart_48 rfl ?_
        refine w_goto (tgt := 53) dX2_readPart_49 rfl ?_
        refine v_istore (l' := [.ref l0, .ref l1, .int 1, .int 0, .int 1, .null]) dX2_readPart_53 (Nat.le_of_ble_eq_true rfl) rfl ?_
        refine w_aload_n dX2_readPart_55 rfl ?_
        refine w_getp dX2_readPart_56 lk_RX2_32 e1 rfl ?_
        refine w_getp dX2_readPart_59 lk_RX2_57 e2 rfl ?_
        obtain ⟨i6, w7, li6, qi6, w⟩ := w
        refine v_wfact (x := gp h (gp h l0 0) 5) dX2_readPart_62 li6 qi6 (Or.inr ⟨_, g_1980⟩) ?_
        refine v_istore (l' := [.ref l0, .ref l1, .int 1, .int 0, .int 1, .int w7.2.2.2.2]) dX2_readPart_65 (Nat.le_of_ble_eq_true rfl) rfl ?_
        refine w_iload_n dX2_readPart_67 rfl ?_
        refine w_if_ne (tgt := 87) dX2_readPart_68 rfl (fun c => ?_) (fun c => ?_)
        · exact w
        · exact absurd c (by decide)
    · rw [if_pos c] at w
      refine w_iconst (v := 1) dX2_readPart_31 rfl ?_
      refine w_goto (tgt := 36) dX2_readPart_32 rfl ?_
      refine v_istore_n (l' := [.ref l0, .ref l1, .int 1, .int 1, .null, .null]) dX2_readPart_36 (Nat.le_of_ble_eq_true rfl) rfl ?_
      refine w_aload_n dX2_readPart_37 rfl ?_
      refine w_getp dX2_readPart_38 lk_RX2_32 e1 rfl ?_
      refine w_geti dX2_readPart_41 lk_RX2_66 e2 rfl ?_
      refine w_iconst (v := 2) dX2_readPart_44 rfl ?_
      refine w_ic_ne (tgt := 52) dX2_readPart_45 rfl (fun c => ?_) (fun c => ?_)
      · rw [if_neg c] at w
        refine w_iconst (v := 0) dX2_readPart_52 rfl ?_
        refine v_istore (l' := [.ref l0, .ref l1, .int 1, .int 1, .int 0, .null]) dX2_readPart_53 (Nat.le_of_ble_eq_true rfl) rfl ?_
        refine w_aload_n dX2_readPart_55 rfl ?_
        refine w_getp dX2_readPart_56 lk_RX2_32 e1 rfl ?_
        refine w_getp dX2_readPart_59 lk_RX2_57 e2 rfl ?_
        obtain ⟨i4, w5, li4, qi4, w⟩ := w
        refine v_wfact (x := gp h (gp h l0 0) 5) dX2_readPart_62 li4 qi4 (Or.inr ⟨_, g_1980⟩) ?_
        refine v_istore (l' := [.ref l0, .ref l1, .int 1, .int 1, .int 0, .int w5.2.2.2.2]) dX2_readPart_65 (Nat.le_of_ble_eq_true rfl) rfl ?_
        refine w_iload_n dX2_readPart_67 rfl ?_
        refine w_if_ne (tgt := 87) dX2_readPart_68 rfl (fun c => ?_) (fun c => ?_)
        · exact w
        · exact absurd c (by decide)
      · rw [if_pos c] at w
        refine w_iconst (v := 1) dX2_readPart_48 rfl ?_
        refine w_goto (tgt := 53) dX2_readPart_49 rfl ?_
        refine v_istore (l' := [.ref l0, .ref l1, .int 1, .int 1, .int 1, .null]) dX2_readPart_53 (Nat.le_of_ble_eq_true rfl) rfl ?_
        refine w_aload_n dX2_readPart_55 rfl ?_
        refine w_getp dX2_readPart_56 lk_RX2_32 e1 rfl ?_
        refine w_getp dX2_readPart_59 lk_RX2_57 e2 rfl ?_
        obtain ⟨i2, w3, li2, qi2, w⟩ := w
        refine v_wfact (x := gp h (gp h l0 0) 5) dX2_readPart_62 li2 qi2 (Or.inr ⟨_, g_1980⟩) ?_
        refine v_istore (l' := [.ref l0, .ref l1, .int 1, .int 1, .int 1, .int w3.2.2.2.2]) dX2_readPart_65 (Nat.le_of_ble_eq_true rfl) rfl ?_
        refine w_iload_n dX2_readPart_67 rfl ?_
        refine w_if_ne (tgt := 87) dX2_readPart_68 rfl (fun c => ?_) (fun c => ?_)
        · exact w
        · exact absurd c (by decide)
set_option maxRecDepth 20000 in
set_option maxHeartbeats 4000000 in
theorem x_X2_readPart_87 {G : pm_G} {d : Nat} {post : pm_PT} {h : pm_H} {l0 : Nat} {l1 : Nat} {l2 : Int32} {l3 : Int32} {l4 : Int32} {l5 : Int32} (w :
    (h.1[l0]? = some (0, 2)) ∧
    if (gi h l0 3) < 5 then (
      if l2 = 0 then (
        if l3 = 0 then (
          if l4 = 0 then (
            (h.1[l1]? = some (0, 1)) ∧
            cv G d m_X1_add [.ref l1, .int l5] h fun h2 =>
            (h2.1[l0]? = some (0, 2)) ∧
            cv G d m_X2_endPart [.ref l0, .ref l1] h2 fun h4 =>
            post (some (.int 0)) h4
          ) else (
            (h.1[gp h l0 0]? = some (0, 7)) ∧
            (h.1[l1]? = some (0, 1)) ∧
            cv G d m_X1_add [.ref l1, .int (gi h (gp h l0 0) 7)] h fun h6 =>
            (h6.1[l0]? = some (0, 2)) ∧
            cv G d m_X2_endPart [.ref l0, .ref l1] h6 fun h8 =>
            post (some (.int 0)) h8
          )
        ) else (
          Wp G (m_X2_readPart, d + 1, 0, 0, post) (0, 0) 105 [.ref l0, .null, .int l2, .null, .null, .null] [] h
        )
      ) else (
        Wp G (m_X2_readPart, d + 1, 0, 0, post) (0, 0) 105 [.ref l0, .null, .int l2, .null, .null, .null] [] h
      )
    ) else (
      post (some (.int 5)) h
    )) :
    Wp G (m_X2_readPart, d + 1, 0, 0, post) (0, 0) 87 [.ref l0, .ref l1, .int l2, .int l3, .int l4, .int l5] [] h := by
  refine w_aload_n dX2_readPart_87 rfl ?_
  obtain ⟨e1, w⟩ := w
  refine w_geti dX2_readPart_88 lk_RX2_22 e1 rfl ?_
  refine w_iconst (v := 5) dX2_readPart_91 rfl ?_
  refine w_ic_lt (tgt := 97) dX2_readPart_92 rfl (fun c => ?_) (fun c => ?_)
  · rw [if_pos c] at w
    refine w_iload_n dX2_readPart_97 rfl ?_
    refine w_if_ne (tgt := 105) dX2_readPart_98 rfl (fun c => ?_) (fun c => ?_)
    · rw [if_neg c] at w
      exact w_drop (l' := [.ref l0, .null, .int l2, .null, .null, .null]) ⟨Or.inr rfl, Or.inl rfl, Or.inr rfl, Or.inl rfl, Or.inl rfl, Or.inl rfl, trivial⟩ w
    · rw [if_pos c] at w
      refine w_iload_n dX2_readPart_101 rfl ?_
      refine w_if_eq (tgt := 151) dX2_readPart_102 rfl (fun c => ?_) (fun c => ?_)
      · rw [if_pos c] at w
        refine w_aload_n dX2_readPart_151 rfl ?_
        refine w_iload dX2_readPart_152 rfl ?_
        refine w_if_eq (tgt := 167) dX2_readPart_154 rfl (fun c => ?_) (fun c => ?_)
        · rw [if_pos c] at w
          refine w_iload dX2_readPart_167 rfl ?_
          obtain ⟨e2, w⟩ := w
          refine w_callV (As := [.int l5]) (st := []) dX2_readPart_169 mt_X1_add g_730 g_731 g_732 rfl e2 rfl rfl (Nat.le_of_ble_eq_true rfl) (Nat.le_refl _) ⟨Nat.le_refl _, Nat.le_refl _⟩ w ?_
          rintro v h2 ⟨rfl, w⟩
          refine w_aload_n dX2_readPart_172 rfl ?_
          refine w_aload_n dX2_readPart_173 rfl ?_
          obtain ⟨e1, w⟩ := w
          refine w_callV (As := [.ref l1]) (st := []) dX2_readPart_174 mt_X2_endPart g_749 g_751 g_22 rfl e1 rfl rfl (Nat.le_of_ble_eq_true rfl) (Nat.le_refl _) ⟨Nat.le_refl _, Nat.le_refl _⟩ w ?_
          rintro v h4 ⟨rfl, w⟩
          refine w_iconst (v := 0) dX2_readPart_177 rfl ?_
          exact w_ireturn dX2_readPart_178 rfl rfl ⟨Nat.le_refl _, Nat.le_refl _⟩ w
        · rw [if_neg c] at w
          refine w_aload_n dX2_readPart_157 rfl ?_
          refine w_getp dX2_readPart_158 lk_RX2_32 e1 rfl ?_
          obtain ⟨e2, w⟩ := w
          refine w_geti dX2_readPart_161 lk_RX2_77 e2 rfl ?_
          refine w_goto (tgt := 169) dX2_readPart_164 rfl ?_
          obtain ⟨e3, w⟩ := w
          refine w_callV (As := [.int (gi h (gp h l0 0) 7)]) (st := []) dX2_readPart_169 mt_X1_add g_730 g_731 g_732 rfl e3 rfl rfl (Nat.le_of_ble_eq_true rfl) (Nat.le_refl _) ⟨Nat.le_refl _, Nat.le_refl _⟩ w ?_
          rintro v h6 ⟨rfl, w⟩
          refine w_aload_n dX2_readPart_172 rfl ?_
          refine w_aload_n dX2_readPart_173 rfl ?_
          obtain ⟨e1, w⟩ := w
          refine w_callV (As := [.ref l1]) (st := []) dX2_readPart_174 mt_X2_endPart g_749 g_751 g_22 rfl e1 rfl rfl (Nat.le_of_ble_eq_true rfl) (Nat.le_refl _) ⟨Nat.le_refl _, Nat.le_refl _⟩ w ?_
          rintro v h8 ⟨rfl, w⟩
          refine w_iconst (v := 0) dX2_readPart_177 rfl ?_
          exact w_ireturn dX2_readPart_178 rfl rfl ⟨Nat.le_refl _, Nat.le_refl _⟩ w
      · rw [if_neg c] at w
        exact w_drop (l' := [.ref l0, .null, .int l2, .null, .null, .null]) ⟨Or.inr rfl, Or.inl rfl, Or.inr rfl, Or.inl rfl, Or.inl rfl, Or.inl rfl, trivial⟩ w
  · rw [if_neg c] at w
    refine w_iconst (v := 5) dX2_readPart_95 rfl ?_
    exact w_ireturn dX2_readPart_96 rfl rfl ⟨Nat.le_refl _, Nat.le_refl _⟩ w
set_option maxRecDepth 20000 in
set_option maxHeartbeats 4000000 in
theorem x_X2_readPart_105 {G : pm_G} {d : Nat} {post : pm_PT} {h : pm_H} {l0 : Nat} {l2 : Int32} (w :
    if l2 = 0 then (
      (h.1[l0]? = some (0, 2)) ∧
      cv G d m_X2_hold [.ref l0, .int (-7)] h fun h2 =>
      (h2.1[l0]? = some (0, 2)) ∧
      ∀ h3 : pm_H, h3 = si h2 l0 3 ((gi h2 l0 3) + 1) →
      if l2 = 0 then (
        ∀ h4 : pm_H, h4 = si h3 l0 4 ((gi h3 l0 4) + 0) →
        post (some (.int 0)) h4
      ) else (
        ∀ h5 : pm_H, h5 = si h3 l0 4 ((gi h3 l0 4) + 1) →
        post (some (.int 0)) h5
      )
    ) else (
      (h.1[l0]? = some (0, 2)) ∧
      cv G d m_X2_hold [.ref l0, .int (-6)] h fun h7 =>
      (h7.1[l0]? = some (0, 2)) ∧
      ∀ h8 : pm_H, h8 = si h7 l0 3 ((gi h7 l0 3) + 1) →
      if l2 = 0 then (
        ∀ h9 : pm_H, h9 = si h8 l0 4 ((gi h8 l0 4) + 0) →
        post (some (.int 0)) h9
      ) else (
        ∀ h10 : pm_H, h10 = si h8 l0 4 ((gi h8 l0 4) + 1) →
        post (some (.int 0)) h10
      )
    )) :
    Wp G (m_X2_readPart, d + 1, 0, 0, post) (0, 0) 105 [.ref l0, .null, .int l2, .null, .null, .null] [] h := by
  refine w_aload_n dX2_readPart_105 rfl ?_
  refine w_iload_n dX2_readPart_106 rfl ?_
  refine w_if_eq (tgt := 115) dX2_readPart_107 rfl (fun c => ?_) (fun c => ?_)
  · rw [if_pos c] at w
    refine w_bipush (v := (-7)) dX2_readPart_115 rfl ?_
    obtain ⟨e1, w⟩ := w
    refine w_callV (As := [.int (-7)]) (st := []) dX2_readPart_117 mt_X2_hold g_744 g_746 g_21 rfl e1 rfl rfl (Nat.le_of_ble_eq_true rfl) (Nat.le_refl _) ⟨Nat.le_refl _, Nat.le_refl _⟩ w ?_
    rintro v h2 ⟨rfl, w⟩
    refine w_aload_n dX2_readPart_120 rfl ?_
    refine w_dup dX2_readPart_121 rfl ?_
    obtain ⟨e1, w⟩ := w
    refine w_geti dX2_readPart_122 lk_RX2_22 e1 rfl ?_
    refine w_iconst (v := 1) dX2_readPart_125 rfl ?_
    refine w_iadd dX2_readPart_126 ?_
    refine w_puti dX2_readPart_127 lk_RX2_22 e1 rfl (Or.inl rfl) ?_
    have w := w _ rfl
    refine w_aload_n dX2_readPart_130 rfl ?_
    refine w_dup dX2_readPart_131 rfl ?_
    refine w_geti dX2_readPart_132 lk_RX2_25 e1 rfl ?_
    refine w_iload_n dX2_readPart_135 rfl ?_
    refine w_if_eq (tgt := 143) dX2_readPart_136 rfl (fun c => ?_) (fun c => ?_)
    · rw [if_pos c] at w
      refine w_iconst (v := 0) dX2_readPart_143 rfl ?_
      refine w_iadd dX2_readPart_144 ?_
      refine w_puti dX2_readPart_145 lk_RX2_25 e1 rfl (Or.inl rfl) ?_
      have w := w _ rfl
      refine w_goto (tgt := 177) dX2_readPart_148 rfl ?_
      refine w_iconst (v := 0) dX2_readPart_177 rfl ?_
      exact w_ireturn dX2_readPart_178 rfl rfl ⟨Nat.le_refl _, Nat.le_refl _⟩ w
    · rw [if_neg c] at w
      refine w_iconst (v := 1) dX2_readPart_139 rfl ?_
      refine w_goto (tgt := 144) dX2_readPart_140 rfl ?_
      refine w_iadd dX2_readPart_144 ?_
      refine w_puti dX2_readPart_145 lk_RX2_25 e1 rfl (Or.inl rfl) ?_
      have w := w _ rfl
      refine w_goto (tgt := 177) dX2_readPart_148 rfl ?_
      refine w_iconst (v := 0) dX2_readPart_177 rfl ?_
      exact w_ireturn dX2_readPart_178 rfl rfl ⟨Nat.le_refl _, Nat.le_refl _⟩ w
  · rw [if_neg c] at w
    refine w_bipush (v := (-6)) dX2_readPart_110 rfl ?_
    refine w_goto (tgt := 117) dX2_readPart_112 rfl ?_
    obtain ⟨e1, w⟩ := w
    refine w_callV (As := [.int (-6)]) (st := []) dX2_readPart_117 mt_X2_hold g_744 g_746 g_21 rfl e1 rfl rfl (Nat.le_of_ble_eq_true rfl) (Nat.le_refl _) ⟨Nat.le_refl _, Nat.le_refl _⟩ w ?_
    rintro v h7 ⟨rfl, w⟩
    refine w_aload_n dX2_readPart_120 rfl ?_
    refine w_dup dX2_readPart_121 rfl ?_
    obtain ⟨e1, w⟩ := w
    refine w_geti dX2_readPart_122 lk_RX2_22 e1 rfl ?_
    refine w_iconst (v := 1) dX2_readPart_125 rfl ?_
    refine w_iadd dX2_readPart_126 ?_
    refine w_puti dX2_readPart_127 lk_RX2_22 e1 rfl (Or.inl rfl) ?_
    have w := w _ rfl
    refine w_aload_n dX2_readPart_130 rfl ?_
    refine w_dup dX2_readPart_131 rfl ?_
    refine w_geti dX2_readPart_132 lk_RX2_25 e1 rfl ?_
    refine w_iload_n dX2_readPart_135 rfl ?_
    refine w_if_eq (tgt := 143) dX2_readPart_136 rfl (fun c => ?_) (fun c => ?_)
    · rw [if_pos c] at w
      refine w_iconst (v := 0) dX2_readPart_143 rfl ?_
      refine w_iadd dX2_readPart_144 ?_
      refine w_puti dX2_readPart_145 lk_RX2_25 e1 rfl (Or.inl rfl) ?_
      have w := w _ rfl
      refine w_goto (tgt := 177) dX2_readPart_148 rfl ?_
      refine w_iconst (v := 0) dX2_readPart_177 rfl ?_
      exact w_ireturn dX2_readPart_178 rfl rfl ⟨Nat.le_refl _, Nat.le_refl _⟩ w
    · rw [if_neg c] at w
      refine w_iconst (v := 1) dX2_readPart_139 rfl ?_
      refine w_goto (tgt := 144) dX2_readPart_140 rfl ?_
      refine w_iadd dX2_readPart_144 ?_
      refine w_puti dX2_readPart_145 lk_RX2_25 e1 rfl (Or.inl rfl) ?_
      have w := w _ rfl
      refine w_goto (tgt := 177) dX2_readPart_148 rfl ?_
      refine w_iconst (v := 0) dX2_readPart_177 rfl ?_
      exact w_ireturn dX2_readPart_178 rfl rfl ⟨Nat.le_refl _, Nat.le_refl _⟩ w
set_option maxRecDepth 20000 in
set_option maxHeartbeats 4000000 in
theorem x_X2_readJoin {G : pm_G} {d : Nat} {post : pm_PT} {h : pm_H} {l0 : Nat} {l1 : Nat} (w :
    (h.1[l0]? = some (0, 2)) ∧
    (h.1[gp h l0 0]? = some (0, 7)) ∧
    if (gi h (gp h l0 0) 8) = 41 then (
      if (gi h l0 4) ≤ 0 then (
        Wp G (m_X2_readJoin, d + 1, 0, 0, post) (0, 0) 62 [.ref l0, .ref l1, .null, .null] [] h
      ) else (
        cv G d m_X2_settle [.ref l0, .ref l1, .int 1] h fun h2 =>
        (h2.1[l0]? = some (0, 2)) ∧
        ∀ h3 : pm_H, h3 = si h2 l0 2 ((gi h2 l0 2) - 1) →
        ∀ h4 : pm_H, h4 = si h3 l0 4 ((gi h3 l0 4) - 1) →
        ∀ h5 : pm_H, h5 = si h4 l0 3 ((gi h4 l0 3) - 1) →
        cv G d m_X2_endPart [.ref l0, .ref l1] h5 fun h7 =>
        post (some (.int 0)) h7
      )
    ) else (
      Wp G (m_X2_readJoin, d + 1, 0, 0, post) (0, 0) 62 [.ref l0, .ref l1, .null, .null] [] h
    )) :
    Wp G (m_X2_readJoin, d + 1, 0, 0, post) (0, 0) 0 [.ref l0, .ref l1, .null, .null] [] h := by
  refine w_aload_n dX2_readJoin_0 rfl ?_
  obtain ⟨e1, w⟩ := w
  refine w_getp dX2_readJoin_1 lk_RX2_32 e1 rfl ?_
  obtain ⟨e2, w⟩ := w
  refine w_geti dX2_readJoin_4 lk_RX2_38 e2 rfl ?_
  refine w_bipush (v := 41) dX2_readJoin_7 rfl ?_
  refine w_ic_ne (tgt := 62) dX2_readJoin_9 rfl (fun c => ?_) (fun c => ?_)
  · rw [if_neg c] at w
    exact w
  · rw [if_pos c] at w
    refine w_aload_n dX2_readJoin_12 rfl ?_
    refine w_geti dX2_readJoin_13 lk_RX2_25 e1 rfl ?_
    refine w_if_le (tgt := 62) dX2_readJoin_16 rfl (fun c => ?_) (fun c => ?_)
    · rw [if_pos c] at w
      exact w
    · rw [if_neg c] at w
      refine w_aload_n dX2_readJoin_19 rfl ?_
      refine w_aload_n dX2_readJoin_20 rfl ?_
      refine w_iconst (v := 1) dX2_readJoin_21 rfl ?_
      refine w_callV (As := [.ref l1, .int 1]) (st := []) dX2_readJoin_22 mt_X2_settle g_719 g_721 g_19 rfl e1 rfl rfl (Nat.le_of_ble_eq_true rfl) (Nat.le_refl _) ⟨Nat.le_refl _, Nat.le_refl _⟩ w ?_
      rintro v h2 ⟨rfl, w⟩
      refine w_aload_n dX2_readJoin_25 rfl ?_
      refine w_dup dX2_readJoin_26 rfl ?_
      obtain ⟨e1, w⟩ := w
      refine w_geti dX2_readJoin_27 lk_RX2_18 e1 rfl ?_
      refine w_iconst (v := 1) dX2_readJoin_30 rfl ?_
      refine w_isub dX2_readJoin_31 ?_
      refine w_puti dX2_readJoin_32 lk_RX2_18 e1 rfl (Or.inl rfl) ?_
      have w := w _ rfl
      refine w_aload_n dX2_readJoin_35 rfl ?_
      refine w_dup dX2_readJoin_36 rfl ?_
      refine w_geti dX2_readJoin_37 lk_RX2_25 e1 rfl ?_
      refine w_iconst (v := 1) dX2_readJoin_40 rfl ?_
      refine w_isub dX2_readJoin_41 ?_
      refine w_puti dX2_readJoin_42 lk_RX2_25 e1 rfl (Or.inl rfl) ?_
      have w := w _ rfl
      refine w_aload_n dX2_readJoin_45 rfl ?_
      refine w_dup dX2_readJoin_46 rfl ?_
      refine w_geti dX2_readJoin_47 lk_RX2_22 e1 rfl ?_
      refine w_iconst (v := 1) dX2_readJoin_50 rfl ?_
      refine w_isub dX2_readJoin_51 ?_
      refine w_puti dX2_readJoin_52 lk_RX2_22 e1 rfl (Or.inl rfl) ?_
      have w := w _ rfl
      refine w_aload_n dX2_readJoin_55 rfl ?_
      refine w_aload_n dX2_readJoin_56 rfl ?_
      refine w_callV (As := [.ref l1]) (st := []) dX2_readJoin_57 mt_X2_endPart g_749 g_751 g_22 rfl e1 rfl rfl (Nat.le_of_ble_eq_true rfl) (Nat.le_refl _) ⟨Nat.le_refl _, Nat.le_refl _⟩ w ?_
      rintro v h7 ⟨rfl, w⟩
      refine w_iconst (v := 0) dX2_readJoin_60 rfl ?_
      exact w_ireturn dX2_readJoin_61 rfl rfl ⟨Nat.le_refl _, Nat.le_refl _⟩ w
set_option maxRecDepth 20000 in
set_option maxHeartbeats 4000000 in
theorem x_X2_readJoin_62 {G : pm_G} {d : Nat} {post : pm_PT} {h : pm_H} {l0 : Nat} {l1 : Nat} (w :
    (h.1[l0]? = some (0, 2)) ∧
    ci G d m_X2_joiningSign [.ref l0] h fun r1 h2 =>
    if r1 = 0 then (
      post (some (.int 1)) h2
    ) else (
      ci G d m_X2_levelOf [.int r1] h2 fun r3 h4 =>
      if r3 = 2 then (
        (h4.1[l0]? = some (0, 2)) ∧
        cv G d m_X2_settle [.ref l0, .ref l1, .int 3] h4 fun h6 =>
        (h6.1[l0]? = some (0, 2)) ∧
        (h6.1[gp h6 l0 1]? = some (0, 6)) ∧
        ci G d m_X6_at [.ref (gp h6 l0 1), .int ((gi h6 l0 2) - 1)] h6 fun r7 h8 =>
        ci G d m_X2_levelOf [.int r7] h8 fun r9 h10 =>
        if r9 = 2 then (
          post (some (.int 1)) h10
        ) else (
          (h10.1[l0]? = some (0, 2)) ∧
          cv G d m_X2_settle [.ref l0, .ref l1, .int r3] h10 fun h12 =>
          (h12.1[l0]? = some (0, 2)) ∧
          cv G d m_X2_hold [.ref l0, .int r1] h12 fun h14 =>
          (h14.1[l0]? = some (0, 2)) ∧
          ∀ h15 : pm_H, h15 = si h14 l0 5 1 →
          post (some (.int 0)) h15
        )
      ) else (
        (h4.1[l0]? = some (0, 2)) ∧
        cv G d m_X2_settle [.ref l0, .ref l1, .int r3] h4 fun h17 =>
        (h17.1[l0]? = some (0, 2)) ∧
        cv G d m_X2_hold [.ref l0, .int r1] h17 fun h19 =>
        (h19.1[l0]? = some (0, 2)) ∧
        ∀ h20 : pm_H, h20 = si h19 l0 5 1 →
        post (some (.int 0)) h20
      )
    )) :
    Wp G (m_X2_readJoin, d + 1, 0, 0, post) (0, 0) 62 [.ref l0, .ref l1, .null, .null] [] h := by
  refine w_aload_n dX2_readJoin_62 rfl ?_
  obtain ⟨e1, w⟩ := w
  refine w_callV (As := []) (st := []) dX2_readJoin_63 mt_X2_joiningSign g_757 g_759 g_24 rfl e1 rfl rfl (Nat.le_of_ble_eq_true rfl) (Nat.le_refl _) ⟨Nat.le_refl _, Nat.le_refl _⟩ w ?_
  rintro v h2 ⟨r1, rfl, w⟩
  refine v_istore_n (l' := [.ref l0, .ref l1, .int r1, .null]) dX2_readJoin_66 (Nat.le_of_ble_eq_true rfl) rfl ?_
  refine w_iload_n dX2_readJoin_67 rfl ?_
  refine w_if_ne (tgt := 73) dX2_readJoin_68 rfl (fun c => ?_) (fun c => ?_)
  · rw [if_neg c] at w
    refine w_iload_n dX2_readJoin_73 rfl ?_
    refine w_callS (As := [.int r1]) (st := []) dX2_readJoin_74 mt_X2_levelOf g_727 g_728 rfl rfl (Nat.le_of_ble_eq_true rfl) (Nat.le_refl _) ⟨Nat.le_refl _, Nat.le_refl _⟩ w ?_
    rintro v h4 ⟨r3, rfl, w⟩
    refine v_istore_n (l' := [.ref l0, .ref l1, .int r1, .int r3]) dX2_readJoin_77 (Nat.le_of_ble_eq_true rfl) rfl ?_
    refine w_iload_n dX2_readJoin_78 rfl ?_
    refine w_iconst (v := 2) dX2_readJoin_79 rfl ?_
    refine w_ic_ne (tgt := 111) dX2_readJoin_80 rfl (fun c => ?_) (fun c => ?_)
    · rw [if_neg c] at w
      refine w_aload_n dX2_readJoin_111 rfl ?_
      refine w_aload_n dX2_readJoin_112 rfl ?_
      refine w_iload_n dX2_readJoin_113 rfl ?_
      obtain ⟨e1, w⟩ := w
      refine w_callV (As := [.ref l1, .int r3]) (st := []) dX2_readJoin_114 mt_X2_settle g_719 g_721 g_19 rfl e1 rfl rfl (Nat.le_of_ble_eq_true rfl) (Nat.le_refl _) ⟨Nat.le_refl _, Nat.le_refl _⟩ w ?_
      rintro v h17 ⟨rfl, w⟩
      refine w_aload_n dX2_readJoin_117 rfl ?_
      refine w_iload_n dX2_readJoin_118 rfl ?_
      obtain ⟨e1, w⟩ := w
      refine w_callV (As := [.int r1]) (st := []) dX2_readJoin_119 mt_X2_hold g_744 g_746 g_21 rfl e1 rfl rfl (Nat.le_of_ble_eq_true rfl) (Nat.le_refl _) ⟨Nat.le_refl _, Nat.le_refl _⟩ w ?_
      rintro v h19 ⟨rfl, w⟩
      refine w_aload_n dX2_readJoin_122 rfl ?_
      refine w_iconst (v := 1) dX2_readJoin_123 rfl ?_
      obtain ⟨e1, w⟩ := w
      refine w_putz dX2_readJoin_124 lk_RX2_28 e1 rfl (Or.inl rfl) (by decide) ?_
      have w := w _ rfl
      refine w_iconst (v := 0) dX2_readJoin_127 rfl ?_
      exact w_ireturn dX2_readJoin_128 rfl rfl ⟨Nat.le_refl _, Nat.le_refl _⟩ w
    · rw [if_pos c] at w
      refine w_aload_n dX2_readJoin_83 rfl ?_
      refine w_aload_n dX2_readJoin_84 rfl ?_
      refine w_iconst (v := 3) dX2_readJoin_85 rfl ?_
      obtain ⟨e1, w⟩ := w
      refine w_callV (As := [.ref l1, .int 3]) (st := []) dX2_readJoin_86 mt_X2_settle g_719 g_721 g_19 rfl e1 rfl rfl (Nat.le_of_ble_eq_true rfl) (Nat.le_refl _) ⟨Nat.le_refl _, Nat.le_refl _⟩ w ?_
      rintro v h6 ⟨rfl, w⟩
      refine w_aload_n dX2_readJoin_89 rfl ?_
      obtain ⟨e1, w⟩ := w
      refine w_getp dX2_readJoin_90 lk_RX2_14 e1 rfl ?_
      refine w_aload_n dX2_readJoin_93 rfl ?_
      refine w_geti dX2_readJoin_94 lk_RX2_18 e1 rfl ?_
      refine w_iconst (v := 1) dX2_readJoin_97 rfl ?_
      refine w_isub dX2_readJoin_98 ?_
      obtain ⟨e2, w⟩ := w
      refine w_callV (As := [.int ((gi h6 l0 2) - 1)]) (st := []) dX2_readJoin_99 mt_X6_at g_723 g_724 g_725 rfl e2 rfl rfl (Nat.le_of_ble_eq_true rfl) (Nat.le_refl _) ⟨Nat.le_refl _, Nat.le_refl _⟩ w ?_
      rintro v h8 ⟨r7, rfl, w⟩
      refine w_callS (As := [.int r7]) (st := []) dX2_readJoin_102 mt_X2_levelOf g_727 g_728 rfl rfl (Nat.le_of_ble_eq_true rfl) (Nat.le_refl _) ⟨Nat.le_refl _, Nat.le_refl _⟩ w ?_
      rintro v h10 ⟨r9, rfl, w⟩
      refine w_iconst (v := 2) dX2_readJoin_105 rfl ?_
      refine w_ic_ne (tgt := 111) dX2_readJoin_106 rfl (fun c => ?_) (fun c => ?_)
      · rw [if_neg c] at w
        refine w_aload_n dX2_readJoin_111 rfl ?_
        refine w_aload_n dX2_readJoin_112 rfl ?_
        refine w_iload_n dX2_readJoin_113 rfl ?_
        obtain ⟨e1, w⟩ := w
        refine w_callV (As := [.ref l1, .int r3]) (st := []) dX2_readJoin_114 mt_X2_settle g_719 g_721 g_19 rfl e1 rfl rfl (Nat.le_of_ble_eq_true rfl) (Nat.le_refl _) ⟨Nat.le_refl _, Nat.le_refl _⟩ w ?_
        rintro v h12 ⟨rfl, w⟩
        refine w_aload_n dX2_readJoin_117 rfl ?_
        refine w_iload_n dX2_readJoin_118 rfl ?_
        obtain ⟨e1, w⟩ := w
        refine w_callV (As := [.int r1]) (st := []) dX2_readJoin_119 mt_X2_hold g_744 g_746 g_21 rfl e1 rfl rfl (Nat.le_of_ble_eq_true rfl) (Nat.le_refl _) ⟨Nat.le_refl _, Nat.le_refl _⟩ w ?_
        rintro v h14 ⟨rfl, w⟩
        refine w_aload_n dX2_readJoin_122 rfl ?_
        refine w_iconst (v := 1) dX2_readJoin_123 rfl ?_
        obtain ⟨e1, w⟩ := w
        refine w_putz dX2_readJoin_124 lk_RX2_28 e1 rfl (Or.inl rfl) (by decide) ?_
        have w := w _ rfl
        refine w_iconst (v := 0) dX2_readJoin_127 rfl ?_
        exact w_ireturn dX2_readJoin_128 rfl rfl ⟨Nat.le_refl _, Nat.le_refl _⟩ w
      · rw [if_pos c] at w
        refine w_iconst (v := 1) dX2_readJoin_109 rfl ?_
        exact w_ireturn dX2_readJoin_110 rfl rfl ⟨Nat.le_refl _, Nat.le_refl _⟩ w
  · rw [if_pos c] at w
    refine w_iconst (v := 1) dX2_readJoin_71 rfl ?_
    exact w_ireturn dX2_readJoin_72 rfl rfl ⟨Nat.le_refl _, Nat.le_refl _⟩ w
set_option maxRecDepth 20000 in
set_option maxHeartbeats 4000000 in
theorem x_X2_endPart {G : pm_G} {d : Nat} {post : pm_PT} {h : pm_H} {l0 : Nat} {l1 : Nat} (w :
    (h.1[l0]? = some (0, 2)) ∧
    if (gi h l0 2) ≤ 0 then (
      ∀ h1 : pm_H, h1 = si h l0 5 0 →
      post none h1
    ) else (
      (h.1[gp h l0 1]? = some (0, 6)) ∧
      ci G d m_X6_at [.ref (gp h l0 1), .int ((gi h l0 2) - 1)] h fun r2 h3 =>
      if r2 = (-7) then (
        (h3.1[l0]? = some (0, 2)) ∧
        ∀ h4 : pm_H, h4 = si h3 l0 2 ((gi h3 l0 2) - 1) →
        ∀ h5 : pm_H, h5 = si h4 l0 3 ((gi h4 l0 3) - 1) →
        (h3.1[l1]? = some (0, 1)) ∧
        cv G d m_X1_add [.ref l1, .int (-7)] h5 fun h7 =>
        Wp G (m_X2_endPart, d + 1, 0, 0, post) (0, 0) 0 [.ref l0, .ref l1] [] h7
      ) else (
        (h3.1[l0]? = some (0, 2)) ∧
        ∀ h8 : pm_H, h8 = si h3 l0 5 0 →
        post none h8
      )
    )) :
    Wp G (m_X2_endPart, d + 1, 0, 0, post) (0, 0) 0 [.ref l0, .ref l1] [] h := by
  refine w_aload_n dX2_endPart_0 rfl ?_
  obtain ⟨e1, w⟩ := w
  refine w_geti dX2_endPart_1 lk_RX2_18 e1 rfl ?_
  refine w_if_le (tgt := 54) dX2_endPart_4 rfl (fun c => ?_) (fun c => ?_)
  · rw [if_pos c] at w
    refine w_aload_n dX2_endPart_54 rfl ?_
    refine w_iconst (v := 0) dX2_endPart_55 rfl ?_
    refine w_putz dX2_endPart_56 lk_RX2_28 e1 rfl (Or.inl rfl) (by decide) ?_
    have w := w _ rfl
    exact w_return dX2_endPart_59 rfl ⟨Nat.le_refl _, Nat.le_refl _⟩ w
  · rw [if_neg c] at w
    refine w_aload_n dX2_endPart_7 rfl ?_
    refine w_getp dX2_endPart_8 lk_RX2_14 e1 rfl ?_
    refine w_aload_n dX2_endPart_11 rfl ?_
    refine w_geti dX2_endPart_12 lk_RX2_18 e1 rfl ?_
    refine w_iconst (v := 1) dX2_endPart_15 rfl ?_
    refine w_isub dX2_endPart_16 ?_
    obtain ⟨e2, w⟩ := w
    refine w_callV (As := [.int ((gi h l0 2) - 1)]) (st := []) dX2_endPart_17 mt_X6_at g_723 g_724 g_725 rfl e2 rfl rfl (Nat.le_of_ble_eq_true rfl) (Nat.le_refl _) ⟨Nat.le_refl _, Nat.le_refl _⟩ w ?_
    rintro v h3 ⟨r2, rfl, w⟩
    refine w_bipush (v := (-7)) dX2_endPart_20 rfl ?_
    refine w_ic_ne (tgt := 54) dX2_endPart_22 rfl (fun c => ?_) (fun c => ?_)
    · rw [if_neg c] at w
      refine w_aload_n dX2_endPart_54 rfl ?_
      refine w_iconst (v := 0) dX2_endPart_55 rfl ?_
      obtain ⟨e1, w⟩ := w
      refine w_putz dX2_endPart_56 lk_RX2_28 e1 rfl (Or.inl rfl) (by decide) ?_
      have w := w _ rfl
      exact w_return dX2_endPart_59 rfl ⟨Nat.le_refl _, Nat.le_refl _⟩ w
    · rw [if_pos c] at w
      refine w_aload_n dX2_endPart_25 rfl ?_
      refine w_dup dX2_endPart_26 rfl ?_
      obtain ⟨e1, w⟩ := w
      refine w_geti dX2_endPart_27 lk_RX2_18 e1 rfl ?_
      refine w_iconst (v := 1) dX2_endPart_30 rfl ?_
      refine w_isub dX2_endPart_31 ?_
      refine w_puti dX2_endPart_32 lk_RX2_18 e1 rfl (Or.inl rfl) ?_
      have w := w _ rfl
      refine w_aload_n dX2_endPart_35 rfl ?_
      refine w_dup dX2_endPart_36 rfl ?_
      refine w_geti dX2_endPart_37 lk_RX2_22 e1 rfl ?_
      refine w_iconst (v := 1) dX2_endPart_40 rfl ?_
      refine w_isub dX2_endPart_41 ?_
      refine w_puti dX2_endPart_42 lk_RX2_22 e1 rfl (Or.inl rfl) ?_
      have w := w _ rfl
      refine w_aload_n dX2_endPart_45 rfl ?_
      refine w_bipush (v := (-7)) dX2_endPart_46 rfl ?_
      obtain ⟨e2, w⟩ := w
      refine w_callV (As := [.int (-7)]) (st := []) dX2_endPart_48 mt_X1_add g_730 g_731 g_732 rfl e2 rfl rfl (Nat.le_of_ble_eq_true rfl) (Nat.le_refl _) ⟨Nat.le_refl _, Nat.le_refl _⟩ w ?_
      rintro v h7 ⟨rfl, w⟩
      refine w_goto (tgt := 0) dX2_endPart_51 rfl ?_
      exact w
set_option maxRecDepth 20000 in
set_option maxHeartbeats 4000000 in
theorem x_X2_settle {G : pm_G} {d : Nat} {post : pm_PT} {h : pm_H} {l0 : Nat} {l1 : Nat} {l2 : Int32} (w :
    (h.1[l0]? = some (0, 2)) ∧
    if (gi h l0 2) ≤ 0 then (
      post none h
    ) else (
      (h.1[gp h l0 1]? = some (0, 6)) ∧
      ci G d m_X6_at [.ref (gp h l0 1), .int ((gi h l0 2) - 1)] h fun r1 h2 =>
      ci G d m_X2_levelOf [.int r1] h2 fun r3 h4 =>
      if r3 < l2 then (
        post none h4
      ) else (
        (h4.1[l0]? = some (0, 2)) ∧
        ∀ h5 : pm_H, h5 = si h4 l0 2 ((gi h4 l0 2) - 1) →
        (h4.1[gp h5 l0 1]? = some (0, 6)) ∧
        ci G d m_X6_at [.ref (gp h5 l0 1), .int (gi h5 l0 2)] h5 fun r6 h7 =>
        (h7.1[l1]? = some (0, 1)) ∧
        cv G d m_X1_add [.ref l1, .int r6] h7 fun h9 =>
        Wp G (m_X2_settle, d + 1, 0, 0, post) (0, 0) 0 [.ref l0, .ref l1, .int l2] [] h9
      )
    )) :
    Wp G (m_X2_settle, d + 1, 0, 0, post) (0, 0) 0 [.ref l0, .ref l1, .int l2] [] h := by
  refine w_aload_n dX2_settle_0 rfl ?_
  obtain ⟨e1, w⟩ := w
  refine w_geti dX2_settle_1 lk_RX2_18 e1 rfl ?_
  refine w_if_le (tgt := 55) dX2_settle_4 rfl (fun c => ?_) (fun c => ?_)
  · rw [if_pos c] at w
    exact w_return dX2_settle_55 rfl ⟨Nat.le_refl _, Nat.le_refl _⟩ w
  · rw [if_neg c] at w
    refine w_aload_n dX2_settle_7 rfl ?_
    refine w_getp dX2_settle_8 lk_RX2_14 e1 rfl ?_
    refine w_aload_n dX2_settle_11 rfl ?_
    refine w_geti dX2_settle_12 lk_RX2_18 e1 rfl ?_
    refine w_iconst (v := 1) dX2_settle_15 rfl ?_
    refine w_isub dX2_settle_16 ?_
    obtain ⟨e2, w⟩ := w
    refine w_callV (As := [.int ((gi h l0 2) - 1)]) (st := []) dX2_settle_17 mt_X6_at g_723 g_724 g_725 rfl e2 rfl rfl (Nat.le_of_ble_eq_true rfl) (Nat.le_refl _) ⟨Nat.le_refl _, Nat.le_refl _⟩ w ?_
    rintro v h2 ⟨r1, rfl, w⟩
    refine w_callS (As := [.int r1]) (st := []) dX2_settle_20 mt_X2_levelOf g_727 g_728 rfl rfl (Nat.le_of_ble_eq_true rfl) (Nat.le_refl _) ⟨Nat.le_refl _, Nat.le_refl _⟩ w ?_
    rintro v h4 ⟨r3, rfl, w⟩
    refine w_iload_n dX2_settle_23 rfl ?_
    refine w_ic_lt (tgt := 55) dX2_settle_24 rfl (fun c => ?_) (fun c => ?_)
    · rw [if_pos c] at w
      exact w_return dX2_settle_55 rfl ⟨Nat.le_refl _, Nat.le_refl _⟩ w
    · rw [if_neg c] at w
      refine w_aload_n dX2_settle_27 rfl ?_
      refine w_dup dX2_settle_28 rfl ?_
      obtain ⟨e1, w⟩ := w
      refine w_geti dX2_settle_29 lk_RX2_18 e1 rfl ?_
      refine w_iconst (v := 1) dX2_settle_32 rfl ?_
      refine w_isub dX2_settle_33 ?_
      refine w_puti dX2_settle_34 lk_RX2_18 e1 rfl (Or.inl rfl) ?_
      have w := w _ rfl
      refine w_aload_n dX2_settle_37 rfl ?_
      refine w_aload_n dX2_settle_38 rfl ?_
      refine w_getp dX2_settle_39 lk_RX2_14 e1 rfl ?_
      refine w_aload_n dX2_settle_42 rfl ?_
      refine w_geti dX2_settle_43 lk_RX2_18 e1 rfl ?_
      obtain ⟨e2, w⟩ := w
      refine w_callV (As := [.int (gi (si h4 l0 2 ((gi h4 l0 2) - 1)) l0 2)]) (st := [.ref l1]) dX2_settle_46 mt_X6_at g_723 g_724 g_725 rfl e2 rfl rfl (Nat.le_of_ble_eq_true rfl) (Nat.le_refl _) ⟨Nat.le_refl _, Nat.le_refl _⟩ w ?_
      rintro v h7 ⟨r6, rfl, w⟩
      obtain ⟨e1, w⟩ := w
      refine w_callV (As := [.int r6]) (st := []) dX2_settle_49 mt_X1_add g_730 g_731 g_732 rfl e1 rfl rfl (Nat.le_of_ble_eq_true rfl) (Nat.le_refl _) ⟨Nat.le_refl _, Nat.le_refl _⟩ w ?_
      rintro v h9 ⟨rfl, w⟩
      refine w_goto (tgt := 0) dX2_settle_52 rfl ?_
      exact w
set_option maxRecDepth 20000 in
set_option maxHeartbeats 4000000 in
theorem x_X2_hold {G : pm_G} {d : Nat} {post : pm_PT} {h : pm_H} {l0 : Nat} {l1 : Int32} (w :
    (h.1[l0]? = some (0, 2)) ∧
    (h.1[gp h l0 1]? = some (0, 6)) ∧
    cv G d m_X6_set [.ref (gp h l0 1), .int (gi h l0 2), .int l1] h fun h2 =>
    (h2.1[l0]? = some (0, 2)) ∧
    ∀ h3 : pm_H, h3 = si h2 l0 2 ((gi h2 l0 2) + 1) →
    post none h3) :
    Wp G (m_X2_hold, d + 1, 0, 0, post) (0, 0) 0 [.ref l0, .int l1] [] h := by
  refine w_aload_n dX2_hold_0 rfl ?_
  obtain ⟨e1, w⟩ := w
  refine w_getp dX2_hold_1 lk_RX2_14 e1 rfl ?_
  refine w_aload_n dX2_hold_4 rfl ?_
  refine w_geti dX2_hold_5 lk_RX2_18 e1 rfl ?_
  refine w_iload_n dX2_hold_8 rfl ?_
  obtain ⟨e2, w⟩ := w
  refine w_callV (As := [.int (gi h l0 2), .int l1]) (st := []) dX2_hold_9 mt_X6_set g_748 g_667 g_668 rfl e2 rfl rfl (Nat.le_of_ble_eq_true rfl) (Nat.le_refl _) ⟨Nat.le_refl _, Nat.le_refl _⟩ w ?_
  rintro v h2 ⟨rfl, w⟩
  refine w_aload_n dX2_hold_12 rfl ?_
  refine w_dup dX2_hold_13 rfl ?_
  obtain ⟨e1, w⟩ := w
  refine w_geti dX2_hold_14 lk_RX2_18 e1 rfl ?_
  refine w_iconst (v := 1) dX2_hold_17 rfl ?_
  refine w_iadd dX2_hold_18 ?_
  refine w_puti dX2_hold_19 lk_RX2_18 e1 rfl (Or.inl rfl) ?_
  have w := w _ rfl
  exact w_return dX2_hold_22 rfl ⟨Nat.le_refl _, Nat.le_refl _⟩ w
set_option maxRecDepth 20000 in
set_option maxHeartbeats 4000000 in
theorem x_X2_joiningSign {G : pm_G} {d : Nat} {post : pm_PT} {h : pm_H} {l0 : Nat} (w :
    (h.1[l0]? = some (0, 2)) ∧
    (h.1[gp h l0 0]? = some (0, 7)) ∧
    ∃ i1 : Nat, i1 < 22 ∧ (gp h (gp h l0 0) 5) = 1000 + i1 ∧
    if i1 = 17 then (
      post (some (.int (-8))) h
    ) else (
      ∃ i2 : Nat, i2 < 22 ∧ (gp h (gp h l0 0) 5) = 1000 + i2 ∧
      if i2 = 18 then (
        post (some (.int (-9))) h
      ) else (
        if (gi h (gp h l0 0) 8) = 42 then (
          post (some (.int (-14))) h
        ) else (
        if (gi h (gp h l0 0) 8) = 43 then (
          post (some (.int (-12))) h
        ) else (
        if (gi h (gp h l0 0) 8) = 45 then (
          post (some (.int (-13))) h
        ) else (
        if (gi h (gp h l0 0) 8) = 60 then (
          post (some (.int (-10))) h
        ) else (
        if (gi h (gp h l0 0) 8) = 61 then (
          post (some (.int (-11))) h
        ) else (
        post (some (.int 0)) h
        )))))
      )
    )) :
    Wp G (m_X2_joiningSign, d + 1, 0, 0, post) (0, 0) 0 [.ref l0] [] h := by
  refine w_aload_n dX2_joiningSign_0 rfl ?_
  obtain ⟨e1, w⟩ := w
  refine w_getp dX2_joiningSign_1 lk_RX2_32 e1 rfl ?_
  obtain ⟨e2, w⟩ := w
  refine w_getp dX2_joiningSign_4 lk_RX2_57 e2 rfl ?_
  refine w_getw (i := 17) dX2_joiningSign_7 rfl g_761 ?_
  obtain ⟨i1, li1, qi1, w⟩ := w
  refine v_acmp_ne (tgt := 16) (i := i1) (j := 17) dX2_joiningSign_10 rfl qi1 rfl li1 (by decide) (fun c => ?_) (fun c => ?_)
  · rw [if_neg c] at w
    refine w_aload_n dX2_joiningSign_16 rfl ?_
    refine w_getp dX2_joiningSign_17 lk_RX2_32 e1 rfl ?_
    refine w_getp dX2_joiningSign_20 lk_RX2_57 e2 rfl ?_
    refine w_getw (i := 18) dX2_joiningSign_23 rfl g_763 ?_
    obtain ⟨i2, li2, qi2, w⟩ := w
    refine v_acmp_ne (tgt := 32) (i := i2) (j := 18) dX2_joiningSign_26 rfl qi2 rfl li2 (by decide) (fun c => ?_) (fun c => ?_)
    · rw [if_neg c] at w
      refine w_aload_n dX2_joiningSign_32 rfl ?_
      refine w_getp dX2_joiningSign_33 lk_RX2_32 e1 rfl ?_
      refine w_geti dX2_joiningSign_36 lk_RX2_38 e2 rfl ?_
      by_cases c42 : (gi h (gp h l0 0) 8) = 42
      · rw [if_pos c42] at w
        refine w_lsw (tgt := 100) dX2_joiningSign_39 (by decide) (by rw [c42]; decide) ?_
        refine w_bipush (v := (-14)) dX2_joiningSign_100 rfl ?_
        exact w_ireturn dX2_joiningSign_102 rfl rfl ⟨Nat.le_refl _, Nat.le_refl _⟩ w
      rw [if_neg c42] at w
      by_cases c43 : (gi h (gp h l0 0) 8) = 43
      · rw [if_pos c43] at w
        refine w_lsw (tgt := 94) dX2_joiningSign_39 (by decide) (by rw [c43]; decide) ?_
        refine w_bipush (v := (-12)) dX2_joiningSign_94 rfl ?_
        exact w_ireturn dX2_joiningSign_96 rfl rfl ⟨Nat.le_refl _, Nat.le_refl _⟩ w
      rw [if_neg c43] at w
      by_cases c45 : (gi h (gp h l0 0) 8) = 45
      · rw [if_pos c45] at w
        refine w_lsw (tgt := 97) dX2_joiningSign_39 (by decide) (by rw [c45]; decide) ?_
        refine w_bipush (v := (-13)) dX2_joiningSign_97 rfl ?_
        exact w_ireturn dX2_joiningSign_99 rfl rfl ⟨Nat.le_refl _, Nat.le_refl _⟩ w
      rw [if_neg c45] at w
      by_cases c60 : (gi h (gp h l0 0) 8) = 60
      · rw [if_pos c60] at w
        refine w_lsw (tgt := 88) dX2_joiningSign_39 (by decide) (by rw [c60]; decide) ?_
        refine w_bipush (v := (-10)) dX2_joiningSign_88 rfl ?_
        exact w_ireturn dX2_joiningSign_90 rfl rfl ⟨Nat.le_refl _, Nat.le_refl _⟩ w
      rw [if_neg c60] at w
      by_cases c61 : (gi h (gp h l0 0) 8) = 61
      · rw [if_pos c61] at w
        refine w_lsw (tgt := 91) dX2_joiningSign_39 (by decide) (by rw [c61]; decide) ?_
        refine w_bipush (v := (-11)) dX2_joiningSign_91 rfl ?_
        exact w_ireturn dX2_joiningSign_93 rfl rfl ⟨Nat.le_refl _, Nat.le_refl _⟩ w
      rw [if_neg c61] at w
      refine w_lsw (tgt := 103) dX2_joiningSign_39 (by decide) (by rw [pm_lsw_none (fun a ha q => by simp at ha; rcases ha with rfl | rfl | rfl | rfl | rfl <;> first | exact c42 (Int32.toInt_inj.mp (q.symm.trans (by decide))) | exact c43 (Int32.toInt_inj.mp (q.symm.trans (by decide))) | exact c45 (Int32.toInt_inj.mp (q.symm.trans (by decide))) | exact c60 (Int32.toInt_inj.mp (q.symm.trans (by decide))) | exact c61 (Int32.toInt_inj.mp (q.symm.trans (by decide))))]; rfl) ?_
      refine w_iconst (v := 0) dX2_joiningSign_103 rfl ?_
      exact w_ireturn dX2_joiningSign_104 rfl rfl ⟨Nat.le_refl _, Nat.le_refl _⟩ w
    · rw [if_pos c] at w
      refine w_bipush (v := (-9)) dX2_joiningSign_29 rfl ?_
      exact w_ireturn dX2_joiningSign_31 rfl rfl ⟨Nat.le_refl _, Nat.le_refl _⟩ w
  · rw [if_pos c] at w
    refine w_bipush (v := (-8)) dX2_joiningSign_13 rfl ?_
    exact w_ireturn dX2_joiningSign_15 rfl rfl ⟨Nat.le_refl _, Nat.le_refl _⟩ w
set_option maxRecDepth 20000 in
set_option maxHeartbeats 4000000 in
theorem x_X2_levelOf {G : pm_G} {d : Nat} {post : pm_PT} {h : pm_H} {l0 : Int32} (w :
    if l0 = (-14) then (
      post (some (.int 4)) h
    ) else (
    if l0 = (-13) then (
      post (some (.int 3)) h
    ) else (
    if l0 = (-12) then (
      post (some (.int 3)) h
    ) else (
    if l0 = (-11) then (
      post (some (.int 2)) h
    ) else (
    if l0 = (-10) then (
      post (some (.int 2)) h
    ) else (
    if l0 = (-9) then (
      post (some (.int 1)) h
    ) else (
    if l0 = (-8) then (
      post (some (.int 1)) h
    ) else (
    post (some (.int 0)) h
    )))))))) :
    Wp G (m_X2_levelOf, d + 1, 0, 0, post) (0, 0) 0 [.int l0] [] h := by
  refine w_iload_n dX2_levelOf_0 rfl ?_
  have sw : (l0 : Int32).toInt < -14 ∨ -8 < (l0 : Int32).toInt ∨ (l0 : Int32).toInt = -14 ∨ (l0 : Int32).toInt = -13 ∨ (l0 : Int32).toInt = -12 ∨ (l0 : Int32).toInt = -11 ∨ (l0 : Int32).toInt = -10 ∨ (l0 : Int32).toInt = -9 ∨ (l0 : Int32).toInt = -8 := by omega
  rcases sw with sw | sw | sw | sw | sw | sw | sw | sw | sw
  · refine w_tsw (tgt := 52) dX2_levelOf_1 (by rw [if_pos (by first | exact Or.inl sw | exact Or.inr sw)]; rfl) (by first | exact Or.inl sw | exact Or.inr (Or.inl sw)) ?_
    rw [if_neg (fun q => by rw [q] at sw; revert sw; decide)] at w
    rw [if_neg (fun q => by rw [q] at sw; revert sw; decide)] at w
    rw [if_neg (fun q => by rw [q] at sw; revert sw; decide)] at w
    rw [if_neg (fun q => by rw [q] at sw; revert sw; decide)] at w
    rw [if_neg (fun q => by rw [q] at sw; revert sw; decide)] at w
    rw [if_neg (fun q => by rw [q] at sw; revert sw; decide)] at w
    rw [if_neg (fun q => by rw [q] at sw; revert sw; decide)] at w
    refine w_iconst (v := 0) dX2_levelOf_52 rfl ?_
    exact w_ireturn dX2_levelOf_53 rfl rfl ⟨Nat.le_refl _, Nat.le_refl _⟩ w
  · refine w_tsw (tgt := 52) dX2_levelOf_1 (by rw [if_pos (by first | exact Or.inl sw | exact Or.inr sw)]; rfl) (by first | exact Or.inl sw | exact Or.inr (Or.inl sw)) ?_
    rw [if_neg (fun q => by rw [q] at sw; revert sw; decide)] at w
    rw [if_neg (fun q => by rw [q] at sw; revert sw; decide)] at w
    rw [if_neg (fun q => by rw [q] at sw; revert sw; decide)] at w
    rw [if_neg (fun q => by rw [q] at sw; revert sw; decide)] at w
    rw [if_neg (fun q => by rw [q] at sw; revert sw; decide)] at w
    rw [if_neg (fun q => by rw [q] at sw; revert sw; decide)] at w
    rw [if_neg (fun q => by rw [q] at sw; revert sw; decide)] at w
    refine w_iconst (v := 0) dX2_levelOf_52 rfl ?_
    exact w_ireturn dX2_levelOf_53 rfl rfl ⟨Nat.le_refl _, Nat.le_refl _⟩ w
  · have sv : (l0 : Int32) = (-14) := Int32.toInt_inj.mp (sw.trans (by decide))
    refine w_tsw (tgt := 50) dX2_levelOf_1 (by rw [sw]; rfl) (by rw [sw]; decide) ?_
    rw [if_pos sv] at w
    refine w_iconst (v := 4) dX2_levelOf_50 rfl ?_
    exact w_ireturn dX2_levelOf_51 rfl rfl ⟨Nat.le_refl _, Nat.le_refl _⟩ w
  · have sv : (l0 : Int32) = (-13) := Int32.toInt_inj.mp (sw.trans (by decide))
    refine w_tsw (tgt := 48) dX2_levelOf_1 (by rw [sw]; rfl) (by rw [sw]; decide) ?_
    rw [if_neg (fun q => by rw [q] at sw; revert sw; decide)] at w
    rw [if_pos sv] at w
    refine w_iconst (v := 3) dX2_levelOf_48 rfl ?_
    exact w_ireturn dX2_levelOf_49 rfl rfl ⟨Nat.le_refl _, Nat.le_refl _⟩ w
  · have sv : (l0 : Int32) = (-12) := Int32.toInt_inj.mp (sw.trans (by decide))
    refine w_tsw (tgt := 48) dX2_levelOf_1 (by rw [sw]; rfl) (by rw [sw]; decide) ?_
    rw [if_neg (fun q => by rw [q] at sw; revert sw; decide)] at w
    rw [if_neg (fun q => by rw [q] at sw; revert sw; decide)] at w
    rw [if_pos sv] at w
    refine w_iconst (v := 3) dX2_levelOf_48 rfl ?_
    exact w_ireturn dX2_levelOf_49 rfl rfl ⟨Nat.le_refl _, Nat.le_refl _⟩ w
  · have sv : (l0 : Int32) = (-11) := Int32.toInt_inj.mp (sw.trans (by decide))
    refine w_tsw (tgt := 46) dX2_levelOf_1 (by rw [sw]; rfl) (by rw [sw]; decide) ?_
    rw [if_neg (fun q => by rw [q] at sw; revert sw; decide)] at w
    rw [if_neg (fun q => by rw [q] at sw; revert sw; decide)] at w
    rw [if_neg (fun q => by rw [q] at sw; revert sw; decide)] at w
    rw [if_pos sv] at w
    refine w_iconst (v := 2) dX2_levelOf_46 rfl ?_
    exact w_ireturn dX2_levelOf_47 rfl rfl ⟨Nat.le_refl _, Nat.le_refl _⟩ w
  · have sv : (l0 : Int32) = (-10) := Int32.toInt_inj.mp (sw.trans (by decide))
    refine w_tsw (tgt := 46) dX2_levelOf_1 (by rw [sw]; rfl) (by rw [sw]; decide) ?_
    rw [if_neg (fun q => by rw [q] at sw; revert sw; decide)] at w
    rw [if_neg (fun q => by rw [q] at sw; revert sw; decide)] at w
    rw [if_neg (fun q => by rw [q] at sw; revert sw; decide)] at w
    rw [if_neg (fun q => by rw [q] at sw; revert sw; decide)] at w
    rw [if_pos sv] at w
    refine w_iconst (v := 2) dX2_levelOf_46 rfl ?_
    exact w_ireturn dX2_levelOf_47 rfl rfl ⟨Nat.le_refl _, Nat.le_refl _⟩ w
  · have sv : (l0 : Int32) = (-9) := Int32.toInt_inj.mp (sw.trans (by decide))
    refine w_tsw (tgt := 44) dX2_levelOf_1 (by rw [sw]; rfl) (by rw [sw]; decide) ?_
    rw [if_neg (fun q => by rw [q] at sw; revert sw; decide)] at w
    rw [if_neg (fun q => by rw [q] at sw; revert sw; decide)] at w
    rw [if_neg (fun q => by rw [q] at sw; revert sw; decide)] at w
    rw [if_neg (fun q => by rw [q] at sw; revert sw; decide)] at w
    rw [if_neg (fun q => by rw [q] at sw; revert sw; decide)] at w
    rw [if_pos sv] at w
    refine w_iconst (v := 1) dX2_levelOf_44 rfl ?_
    exact w_ireturn dX2_levelOf_45 rfl rfl ⟨Nat.le_refl _, Nat.le_refl _⟩ w
  · have sv : (l0 : Int32) = (-8) := Int32.toInt_inj.mp (sw.trans (by decide))
    refine w_tsw (tgt := 44) dX2_levelOf_1 (by rw [sw]; rfl) (by rw [sw]; decide) ?_
    rw [if_neg (fun q => by rw [q] at sw; revert sw; decide)] at w
    rw [if_neg (fun q => by rw [q] at sw; revert sw; decide)] at w
    rw [if_neg (fun q => by rw [q] at sw; revert sw; decide)] at w
    rw [if_neg (fun q => by rw [q] at sw; revert sw; decide)] at w
    rw [if_neg (fun q => by rw [q] at sw; revert sw; decide)] at w
    rw [if_neg (fun q => by rw [q] at sw; revert sw; decide)] at w
    rw [if_pos sv] at w
    refine w_iconst (v := 1) dX2_levelOf_44 rfl ?_
    exact w_ireturn dX2_levelOf_45 rfl rfl ⟨Nat.le_refl _, Nat.le_refl _⟩ w
set_option maxRecDepth 20000 in
set_option maxHeartbeats 4000000 in
theorem x_X4_clear {G : pm_G} {d : Nat} {post : pm_PT} {h : pm_H} {l0 : Nat} (w :
    (h.1[l0]? = some (0, 4)) ∧
    (h.1[gp h l0 0]? = some (0, 3)) ∧
    ∀ h1 : pm_H, h1 = si h (gp h l0 0) 1 0 →
    (h.1[gp h1 l0 1]? = some (0, 3)) ∧
    ∀ h2 : pm_H, h2 = si h1 (gp h1 l0 1) 1 0 →
    (h.1[gp h2 l0 2]? = some (0, 3)) ∧
    ∀ h3 : pm_H, h3 = si h2 (gp h2 l0 2) 1 0 →
    (h.1[gp h3 l0 7]? = some (0, 1)) ∧
    ∀ h4 : pm_H, h4 = si h3 (gp h3 l0 7) 1 0 →
    ∀ h5 : pm_H, h5 = si h4 l0 8 2 →
    post none h5) :
    Wp G (m_X4_clear, d + 1, 0, 0, post) (0, 0) 0 [.ref l0] [] h := by
  refine w_aload_n dX4_clear_0 rfl ?_
  obtain ⟨e1, w⟩ := w
  refine w_getp dX4_clear_1 lk_RX4_14 e1 rfl ?_
  refine w_iconst (v := 0) dX4_clear_4 rfl ?_
  obtain ⟨e2, w⟩ := w
  refine w_puti dX4_clear_5 lk_RX4_54 e2 rfl (Or.inl rfl) ?_
  have w := w _ rfl
  refine w_aload_n dX4_clear_8 rfl ?_
  refine w_getp dX4_clear_9 lk_RX4_20 e1 rfl ?_
  refine w_iconst (v := 0) dX4_clear_12 rfl ?_
  obtain ⟨e3, w⟩ := w
  refine w_puti dX4_clear_13 lk_RX4_54 e3 rfl (Or.inl rfl) ?_
  have w := w _ rfl
  refine w_aload_n dX4_clear_16 rfl ?_
  refine w_getp dX4_clear_17 lk_RX4_23 e1 rfl ?_
  refine w_iconst (v := 0) dX4_clear_20 rfl ?_
  obtain ⟨e4, w⟩ := w
  refine w_puti dX4_clear_21 lk_RX4_54 e4 rfl (Or.inl rfl) ?_
  have w := w _ rfl
  refine w_aload_n dX4_clear_24 rfl ?_
  refine w_getp dX4_clear_25 lk_RX4_46 e1 rfl ?_
  refine w_iconst (v := 0) dX4_clear_28 rfl ?_
  obtain ⟨e5, w⟩ := w
  refine w_puti dX4_clear_29 lk_RX4_57 e5 rfl (Or.inl rfl) ?_
  have w := w _ rfl
  refine w_aload_n dX4_clear_32 rfl ?_
  refine w_iconst (v := 2) dX4_clear_33 rfl ?_
  refine w_puti dX4_clear_34 lk_RX4_50 e1 rfl (Or.inl rfl) ?_
  have w := w _ rfl
  exact w_return dX4_clear_37 rfl ⟨Nat.le_refl _, Nat.le_refl _⟩ w
set_option maxRecDepth 20000 in
set_option maxHeartbeats 4000000 in
theorem x_X4_copyFrom {G : pm_G} {d : Nat} {post : pm_PT} {h : pm_H} {l0 : Nat} {l1 : Nat} (w :
    (h.1[l0]? = some (0, 4)) ∧
    (h.1[l1]? = some (0, 4)) ∧
    (h.1[gp h l0 0]? = some (0, 3)) ∧
    cv G d m_X3_copyFrom [.ref (gp h l0 0), .ref (gp h l1 0)] h fun h2 =>
    (h2.1[l0]? = some (0, 4)) ∧
    (h2.1[l1]? = some (0, 4)) ∧
    (h2.1[gp h2 l0 1]? = some (0, 3)) ∧
    cv G d m_X3_copyFrom [.ref (gp h2 l0 1), .ref (gp h2 l1 1)] h2 fun h4 =>
    (h4.1[l0]? = some (0, 4)) ∧
    (h4.1[l1]? = some (0, 4)) ∧
    (h4.1[gp h4 l0 2]? = some (0, 3)) ∧
    cv G d m_X3_copyFrom [.ref (gp h4 l0 2), .ref (gp h4 l1 2)] h4 fun h6 =>
    (h6.1[l0]? = some (0, 4)) ∧
    (h6.1[l1]? = some (0, 4)) ∧
    (h6.1[gp h6 l0 3]? = some (0, 6)) ∧
    cv G d m_X6_copyFrom [.ref (gp h6 l0 3), .ref (gp h6 l1 3)] h6 fun h8 =>
    (h8.1[l0]? = some (0, 4)) ∧
    (h8.1[l1]? = some (0, 4)) ∧
    (h8.1[gp h8 l0 4]? = some (0, 6)) ∧
    cv G d m_X6_copyFrom [.ref (gp h8 l0 4), .ref (gp h8 l1 4)] h8 fun h10 =>
    (h10.1[l0]? = some (0, 4)) ∧
    (h10.1[l1]? = some (0, 4)) ∧
    (h10.1[gp h10 l0 5]? = some (0, 6)) ∧
    cv G d m_X6_copyFrom [.ref (gp h10 l0 5), .ref (gp h10 l1 5)] h10 fun h12 =>
    Wp G (m_X4_copyFrom, d + 1, 0, 0, post) (0, 0) 68 [.ref l0, .ref l1, .int 0] [] h12) :
    Wp G (m_X4_copyFrom, d + 1, 0, 0, post) (0, 0) 0 [.ref l0, .ref l1, .null] [] h := by
  refine w_aload_n dX4_copyFrom_0 rfl ?_
  obtain ⟨e1, w⟩ := w
  refine w_getp dX4_copyFrom_1 lk_RX4_14 e1 rfl ?_
  refine w_aload_n dX4_copyFrom_4 rfl ?_
  obtain ⟨e2, w⟩ := w
  refine w_getp dX4_copyFrom_5 lk_RX4_14 e2 rfl ?_
  obtain ⟨e3, w⟩ := w
  refine w_callV (As := [.ref (gp h l1 0)]) (st := []) dX4_copyFrom_8 mt_X3_copyFrom g_770 g_771 g_772 rfl e3 rfl rfl (Nat.le_of_ble_eq_true rfl) (Nat.le_refl _) ⟨Nat.le_refl _, Nat.le_refl _⟩ w ?_
  rintro v h2 ⟨rfl, w⟩
  refine w_aload_n dX4_copyFrom_11 rfl ?_
  obtain ⟨e1, w⟩ := w
  refine w_getp dX4_copyFrom_12 lk_RX4_20 e1 rfl ?_
  refine w_aload_n dX4_copyFrom_15 rfl ?_
  obtain ⟨e2, w⟩ := w
  refine w_getp dX4_copyFrom_16 lk_RX4_20 e2 rfl ?_
  obtain ⟨e3, w⟩ := w
  refine w_callV (As := [.ref (gp h2 l1 1)]) (st := []) dX4_copyFrom_19 mt_X3_copyFrom g_770 g_771 g_772 rfl e3 rfl rfl (Nat.le_of_ble_eq_true rfl) (Nat.le_refl _) ⟨Nat.le_refl _, Nat.le_refl _⟩ w ?_
  rintro v h4 ⟨rfl, w⟩
  refine w_aload_n dX4_copyFrom_22 rfl ?_
  obtain ⟨e1, w⟩ := w
  refine w_getp dX4_copyFrom_23 lk_RX4_23 e1 rfl ?_
  refine w_aload_n dX4_copyFrom_26 rfl ?_
  obtain ⟨e2, w⟩ := w
  refine w_getp dX4_copyFrom_27 lk_RX4_23 e2 rfl ?_
  obtain ⟨e3, w⟩ := w
  refine w_callV (As := [.ref (gp h4 l1 2)]) (st := []) dX4_copyFrom_30 mt_X3_copyFrom g_770 g_771 g_772 rfl e3 rfl rfl (Nat.le_of_ble_eq_true rfl) (Nat.le_refl _) ⟨Nat.le_refl _, Nat.le_refl _⟩ w ?_
  rintro v h6 ⟨rfl, w⟩
  refine w_aload_n dX4_copyFrom_33 rfl ?_
  obtain ⟨e1, w⟩ := w
  refine w_getp dX4_copyFrom_34 lk_RX4_29 e1 rfl ?_
  refine w_aload_n dX4_copyFrom_37 rfl ?_
  obtain ⟨e2, w⟩ := w
  refine w_getp dX4_copyFrom_38 lk_RX4_29 e2 rfl ?_
  obtain ⟨e3, w⟩ := w
  refine w_callV (As := [.ref (gp h6 l1 3)]) (st := []) dX4_copyFrom_41 mt_X6_copyFrom g_775 g_776 g_777 rfl e3 rfl rfl (Nat.le_of_ble_eq_true rfl) (Nat.le_refl _) ⟨Nat.le_refl _, Nat.le_refl _⟩ w ?_
  rintro v h8 ⟨rfl, w⟩
  refine w_aload_n dX4_copyFrom_44 rfl ?_
  obtain ⟨e1, w⟩ := w
  refine w_getp dX4_copyFrom_45 lk_RX4_33 e1 rfl ?_
  refine w_aload_n dX4_copyFrom_48 rfl ?_
  obtain ⟨e2, w⟩ := w
  refine w_getp dX4_copyFrom_49 lk_RX4_33 e2 rfl ?_
  obtain ⟨e3, w⟩ := w
  refine w_callV (As := [.ref (gp h8 l1 4)]) (st := []) dX4_copyFrom_52 mt_X6_copyFrom g_775 g_776 g_777 rfl e3 rfl rfl (Nat.le_of_ble_eq_true rfl) (Nat.le_refl _) ⟨Nat.le_refl _, Nat.le_refl _⟩ w ?_
  rintro v h10 ⟨rfl, w⟩
  refine w_aload_n dX4_copyFrom_55 rfl ?_
  obtain ⟨e1, w⟩ := w
  refine w_getp dX4_copyFrom_56 lk_RX4_36 e1 rfl ?_
  refine w_aload_n dX4_copyFrom_59 rfl ?_
  obtain ⟨e2, w⟩ := w
  refine w_getp dX4_copyFrom_60 lk_RX4_36 e2 rfl ?_
  obtain ⟨e3, w⟩ := w
  refine w_callV (As := [.ref (gp h10 l1 5)]) (st := []) dX4_copyFrom_63 mt_X6_copyFrom g_775 g_776 g_777 rfl e3 rfl rfl (Nat.le_of_ble_eq_true rfl) (Nat.le_refl _) ⟨Nat.le_refl _, Nat.le_refl _⟩ w ?_
  rintro v h12 ⟨rfl, w⟩
  refine w_iconst (v := 0) dX4_copyFrom_66 rfl ?_
  refine v_istore_n (l' := [.ref l0, .ref l1, .int 0]) dX4_copyFrom_67 (Nat.le_of_ble_eq_true rfl) rfl ?_
  exact w
set_option maxRecDepth 20000 in
set_option maxHeartbeats 4000000 in
theorem x_X4_copyFrom_68 {G : pm_G} {d : Nat} {post : pm_PT} {h : pm_H} {l0 : Nat} {l1 : Nat} {l2 : Int32} (w :
    (h.1[l0]? = some (0, 4)) ∧
    ∃ n1 : Nat, h.1[gp h l0 6]? = some (4, n1) ∧
    if (Int32.ofNat n1) ≤ l2 then (
      (h.1[l1]? = some (0, 4)) ∧
      (h.1[gp h l0 7]? = some (0, 1)) ∧
      cv G d m_X1_copyFrom [.ref (gp h l0 7), .ref (gp h l1 7)] h fun h3 =>
      (h3.1[l1]? = some (0, 4)) ∧
      (h3.1[l0]? = some (0, 4)) ∧
      ∀ h4 : pm_H, h4 = si h3 l0 8 (gi h3 l1 8) →
      post none h4
    ) else (
      (h.1[l1]? = some (0, 4)) ∧
      cf G d m_X4_keyOf [.ref l1, .int l2] h fun r5 h6 =>
      ∃ n7 : Nat, h6.1[gp h l0 6]? = some (4, n7) ∧
      (vp_in l2 n7) ∧
      ∀ h8 : pm_H, h8 = sf h6 (gp h l0 6) (l2 : Int32).toNatClampNeg r5 →
      Wp G (m_X4_copyFrom, d + 1, 0, 0, post) (0, 0) 68 [.ref l0, .ref l1, .int (l2 + 1)] [] h8
    )) :
    Wp G (m_X4_copyFrom, d + 1, 0, 0, post) (0, 0) 68 [.ref l0, .ref l1, .int l2] [] h := by
  refine w_iload_n dX4_copyFrom_68 rfl ?_
  refine w_aload_n dX4_copyFrom_69 rfl ?_
  obtain ⟨e1, w⟩ := w
  refine w_getp dX4_copyFrom_70 lk_RX4_39 e1 rfl ?_
  obtain ⟨n1, ln1, w⟩ := w
  refine w_alen dX4_copyFrom_73 ln1 (by decide) rfl ?_
  refine w_ic_ge (tgt := 94) dX4_copyFrom_74 rfl (fun c => ?_) (fun c => ?_)
  · rw [if_pos c] at w
    refine w_aload_n dX4_copyFrom_94 rfl ?_
    refine w_getp dX4_copyFrom_95 lk_RX4_46 e1 rfl ?_
    refine w_aload_n dX4_copyFrom_98 rfl ?_
    obtain ⟨e3, w⟩ := w
    refine w_getp dX4_copyFrom_99 lk_RX4_46 e3 rfl ?_
    obtain ⟨e4, w⟩ := w
    refine w_callV (As := [.ref (gp h l1 7)]) (st := []) dX4_copyFrom_102 mt_X1_copyFrom g_783 g_784 g_785 rfl e4 rfl rfl (Nat.le_of_ble_eq_true rfl) (Nat.le_refl _) ⟨Nat.le_refl _, Nat.le_refl _⟩ w ?_
    rintro v h3 ⟨rfl, w⟩
    refine w_aload_n dX4_copyFrom_105 rfl ?_
    refine w_aload_n dX4_copyFrom_106 rfl ?_
    obtain ⟨e1, w⟩ := w
    refine w_geti dX4_copyFrom_107 lk_RX4_50 e1 rfl ?_
    obtain ⟨e2, w⟩ := w
    refine w_puti dX4_copyFrom_110 lk_RX4_50 e2 rfl (Or.inl rfl) ?_
    have w := w _ rfl
    exact w_return dX4_copyFrom_113 rfl ⟨Nat.le_refl _, Nat.le_refl _⟩ w
  · rw [if_neg c] at w
    refine w_aload_n dX4_copyFrom_77 rfl ?_
    refine w_getp dX4_copyFrom_78 lk_RX4_39 e1 rfl ?_
    refine w_iload_n dX4_copyFrom_81 rfl ?_
    refine w_aload_n dX4_copyFrom_82 rfl ?_
    refine w_iload_n dX4_copyFrom_83 rfl ?_
    obtain ⟨e3, w⟩ := w
    refine w_callV (As := [.int l2]) (st := [.int l2, .ref (gp h l0 6)]) dX4_copyFrom_84 mt_X4_keyOf g_779 g_780 g_781 rfl e3 rfl rfl (Nat.le_of_ble_eq_true rfl) (Nat.le_refl _) ⟨Nat.le_refl _, Nat.le_refl _⟩ w ?_
    rintro v h6 ⟨r5, rfl, w⟩
    obtain ⟨n7, ln7, w⟩ := w
    obtain ⟨e2, w⟩ := w
    refine w_fast dX4_copyFrom_87 ln7 e2 ?_
    have w := w _ rfl
    refine v_iinc (l' := [.ref l0, .ref l1, .int (l2 + 1)]) (v := l2 + 1) dX4_copyFrom_88 rfl rfl (Nat.le_of_ble_eq_true rfl) rfl ?_
    refine w_goto (tgt := 68) dX4_copyFrom_91 rfl ?_
    exact w
set_option maxRecDepth 20000 in
set_option maxHeartbeats 4000000 in
theorem x_X4_addShelf {G : pm_G} {d : Nat} {post : pm_PT} {h : pm_H} {l0 : Nat} {l1 : Int64} {l3 : Int32} (w :
    (h.1[l0]? = some (0, 4)) ∧
    (h.1[gp h l0 1]? = some (0, 3)) ∧
    (h.1[gp h l0 3]? = some (0, 6)) ∧
    cv G d m_X6_set [.ref (gp h l0 3), .int (gi h (gp h l0 1) 1), .int l3] h fun h2 =>
    (h2.1[l0]? = some (0, 4)) ∧
    (h2.1[gp h2 l0 1]? = some (0, 3)) ∧
    cv G d m_X3_add [.ref (gp h2 l0 1), .long l1] h2 fun h4 =>
    post none h4) :
    Wp G (m_X4_addShelf, d + 1, 0, 0, post) (0, 0) 0 [.ref l0, .long l1, .null, .int l3] [] h := by
  refine w_aload_n dX4_addShelf_0 rfl ?_
  obtain ⟨e1, w⟩ := w
  refine w_getp dX4_addShelf_1 lk_RX4_29 e1 rfl ?_
  refine w_aload_n dX4_addShelf_4 rfl ?_
  refine w_getp dX4_addShelf_5 lk_RX4_20 e1 rfl ?_
  obtain ⟨e2, w⟩ := w
  refine w_geti dX4_addShelf_8 lk_RX4_54 e2 rfl ?_
  refine w_iload_n dX4_addShelf_11 rfl ?_
  obtain ⟨e3, w⟩ := w
  refine w_callV (As := [.int (gi h (gp h l0 1) 1), .int l3]) (st := []) dX4_addShelf_12 mt_X6_set g_666 g_667 g_668 rfl e3 rfl rfl (Nat.le_of_ble_eq_true rfl) (Nat.le_refl _) ⟨Nat.le_refl _, Nat.le_refl _⟩ w ?_
  rintro v h2 ⟨rfl, w⟩
  refine w_aload_n dX4_addShelf_15 rfl ?_
  obtain ⟨e1, w⟩ := w
  refine w_getp dX4_addShelf_16 lk_RX4_20 e1 rfl ?_
  refine w_lload_n dX4_addShelf_19 rfl ?_
  obtain ⟨e2, w⟩ := w
  refine w_callV (As := [.long l1]) (st := []) dX4_addShelf_20 mt_X3_add g_670 g_649 g_650 rfl e2 rfl rfl (Nat.le_of_ble_eq_true rfl) (Nat.le_refl _) ⟨Nat.le_refl _, Nat.le_refl _⟩ w ?_
  rintro v h4 ⟨rfl, w⟩
  exact w_return dX4_addShelf_23 rfl ⟨Nat.le_refl _, Nat.le_refl _⟩ w
set_option maxRecDepth 20000 in
set_option maxHeartbeats 4000000 in
theorem x_X4_addItem {G : pm_G} {d : Nat} {post : pm_PT} {h : pm_H} {l0 : Nat} {l1 : Int64} {l3 : Int32} {l4 : UInt32} {l5 : Int32} (w :
    (h.1[l0]? = some (0, 4)) ∧
    (h.1[gp h l0 2]? = some (0, 3)) ∧
    (h.1[gp h l0 4]? = some (0, 6)) ∧
    cv G d m_X6_set [.ref (gp h l0 4), .int (gi h (gp h l0 2) 1), .int l3] h fun h2 =>
    (h2.1[l0]? = some (0, 4)) ∧
    (h2.1[gp h2 l0 5]? = some (0, 6)) ∧
    cv G d m_X6_set [.ref (gp h2 l0 5), .int (gi h (gp h l0 2) 1), .int l5] h2 fun h4 =>
    if (gi h (gp h l0 2) 1) < 0 then (
      (h4.1[l0]? = some (0, 4)) ∧
      (h4.1[gp h4 l0 2]? = some (0, 3)) ∧
      cv G d m_X3_add [.ref (gp h4 l0 2), .long l1] h4 fun h6 =>
      post none h6
    ) else (
      (h4.1[l0]? = some (0, 4)) ∧
      ∃ n7 : Nat, h4.1[gp h4 l0 6]? = some (4, n7) ∧
      if (Int32.ofNat n7) ≤ (gi h (gp h l0 2) 1) then (
        (h4.1[gp h4 l0 2]? = some (0, 3)) ∧
        cv G d m_X3_add [.ref (gp h4 l0 2), .long l1] h4 fun h9 =>
        post none h9
      ) else (
        cf G d m_X4_keyFor [.int l3, .float l4] h4 fun r10 h11 =>
        ∃ n12 : Nat, h11.1[gp h4 l0 6]? = some (4, n12) ∧
        (vp_in (gi h (gp h l0 2) 1) n12) ∧
        ∀ h13 : pm_H, h13 = sf h11 (gp h4 l0 6) (gi h (gp h l0 2) 1 : Int32).toNatClampNeg r10 →
        (h11.1[l0]? = some (0, 4)) ∧
        (h11.1[gp h13 l0 2]? = some (0, 3)) ∧
        cv G d m_X3_add [.ref (gp h13 l0 2), .long l1] h13 fun h15 =>
        post none h15
      )
    )) :
    Wp G (m_X4_addItem, d + 1, 0, 0, post) (0, 0) 0 [.ref l0, .long l1, .null, .int l3, .float l4, .int l5, .null] [] h := by
  refine w_aload_n dX4_addItem_0 rfl ?_
  obtain ⟨e1, w⟩ := w
  refine w_getp dX4_addItem_1 lk_RX4_23 e1 rfl ?_
  obtain ⟨e2, w⟩ := w
  refine w_geti dX4_addItem_4 lk_RX4_54 e2 rfl ?_
  refine v_istore (l' := [.ref l0, .long l1, .null, .int l3, .float l4, .int l5, .int (gi h (gp h l0 2) 1)]) dX4_addItem_7 (Nat.le_of_ble_eq_true rfl) rfl ?_
  refine w_aload_n dX4_addItem_9 rfl ?_
  refine w_getp dX4_addItem_10 lk_RX4_33 e1 rfl ?_
  refine w_iload dX4_addItem_13 rfl ?_
  refine w_iload_n dX4_addItem_15 rfl ?_
  obtain ⟨e3, w⟩ := w
  refine w_callV (As := [.int (gi h (gp h l0 2) 1), .int l3]) (st := []) dX4_addItem_16 mt_X6_set g_666 g_667 g_668 rfl e3 rfl rfl (Nat.le_of_ble_eq_true rfl) (Nat.le_refl _) ⟨Nat.le_refl _, Nat.le_refl _⟩ w ?_
  rintro v h2 ⟨rfl, w⟩
  refine w_aload_n dX4_addItem_19 rfl ?_
  obtain ⟨e1, w⟩ := w
  refine w_getp dX4_addItem_20 lk_RX4_36 e1 rfl ?_
  refine w_iload dX4_addItem_23 rfl ?_
  refine w_iload dX4_addItem_25 rfl ?_
  obtain ⟨e2, w⟩ := w
  refine w_callV (As := [.int (gi h (gp h l0 2) 1), .int l5]) (st := []) dX4_addItem_27 mt_X6_set g_666 g_667 g_668 rfl e2 rfl rfl (Nat.le_of_ble_eq_true rfl) (Nat.le_refl _) ⟨Nat.le_refl _, Nat.le_refl _⟩ w ?_
  rintro v h4 ⟨rfl, w⟩
  refine w_iload dX4_addItem_30 rfl ?_
  refine w_if_lt (tgt := 58) dX4_addItem_32 rfl (fun c => ?_) (fun c => ?_)
  · rw [if_pos c] at w
    refine w_aload_n dX4_addItem_58 rfl ?_
    obtain ⟨e1, w⟩ := w
    refine w_getp dX4_addItem_59 lk_RX4_23 e1 rfl ?_
    refine w_lload_n dX4_addItem_62 rfl ?_
    obtain ⟨e2, w⟩ := w
    refine w_callV (As := [.long l1]) (st := []) dX4_addItem_63 mt_X3_add g_670 g_649 g_650 rfl e2 rfl rfl (Nat.le_of_ble_eq_true rfl) (Nat.le_refl _) ⟨Nat.le_refl _, Nat.le_refl _⟩ w ?_
    rintro v h6 ⟨rfl, w⟩
    exact w_return dX4_addItem_66 rfl ⟨Nat.le_refl _, Nat.le_refl _⟩ w
  · rw [if_neg c] at w
    refine w_iload dX4_addItem_35 rfl ?_
    refine w_aload_n dX4_addItem_37 rfl ?_
    obtain ⟨e1, w⟩ := w
    refine w_getp dX4_addItem_38 lk_RX4_39 e1 rfl ?_
    obtain ⟨n7, ln7, w⟩ := w
    refine w_alen dX4_addItem_41 ln7 (by decide) rfl ?_
    refine w_ic_ge (tgt := 58) dX4_addItem_42 rfl (fun c => ?_) (fun c => ?_)
    · rw [if_pos c] at w
      refine w_aload_n dX4_addItem_58 rfl ?_
      refine w_getp dX4_addItem_59 lk_RX4_23 e1 rfl ?_
      refine w_lload_n dX4_addItem_62 rfl ?_
      obtain ⟨e3, w⟩ := w
      refine w_callV (As := [.long l1]) (st := []) dX4_addItem_63 mt_X3_add g_670 g_649 g_650 rfl e3 rfl rfl (Nat.le_of_ble_eq_true rfl) (Nat.le_refl _) ⟨Nat.le_refl _, Nat.le_refl _⟩ w ?_
      rintro v h9 ⟨rfl, w⟩
      exact w_return dX4_addItem_66 rfl ⟨Nat.le_refl _, Nat.le_refl _⟩ w
    · rw [if_neg c] at w
      refine w_aload_n dX4_addItem_45 rfl ?_
      refine w_getp dX4_addItem_46 lk_RX4_39 e1 rfl ?_
      refine w_iload dX4_addItem_49 rfl ?_
      refine w_iload_n dX4_addItem_51 rfl ?_
      refine w_fload dX4_addItem_52 rfl ?_
      refine w_callS (As := [.int l3, .float l4]) (st := [.int (gi h (gp h l0 2) 1), .ref (gp h4 l0 6)]) dX4_addItem_54 mt_X4_keyFor g_698 g_699 rfl rfl (Nat.le_of_ble_eq_true rfl) (Nat.le_refl _) ⟨Nat.le_refl _, Nat.le_refl _⟩ w ?_
      rintro v h11 ⟨r10, rfl, w⟩
      obtain ⟨n12, ln12, w⟩ := w
      obtain ⟨e2, w⟩ := w
      refine w_fast dX4_addItem_57 ln12 e2 ?_
      have w := w _ rfl
      refine w_aload_n dX4_addItem_58 rfl ?_
      obtain ⟨e3, w⟩ := w
      refine w_getp dX4_addItem_59 lk_RX4_23 e3 rfl ?_
      refine w_lload_n dX4_addItem_62 rfl ?_
      obtain ⟨e4, w⟩ := w
      refine w_callV (As := [.long l1]) (st := []) dX4_addItem_63 mt_X3_add g_670 g_649 g_650 rfl e4 rfl rfl (Nat.le_of_ble_eq_true rfl) (Nat.le_refl _) ⟨Nat.le_refl _, Nat.le_refl _⟩ w ?_
      rintro v h15 ⟨rfl, w⟩
      exact w_return dX4_addItem_66 rfl ⟨Nat.le_refl _, Nat.le_refl _⟩ w
set_option maxRecDepth 20000 in
set_option maxHeartbeats 4000000 in
theorem x_X4_keyFor {G : pm_G} {d : Nat} {post : pm_PT} {h : pm_H} {l0 : Int32} {l1 : UInt32} (w :
    if l0 = 1 then (
      (vf_n32 (FP.fmul l1 1056964608)) ∧
      post (some (.float (FP.fmul l1 1056964608))) h
    ) else (
    if l0 = 2 then (
      (vf_n32 (FP.fadd l1 1036831949)) ∧
      post (some (.float (FP.fadd l1 1036831949))) h
    ) else (
    if l0 = 3 then (
      (vf_n32 (FP.fadd l1 FP.fconst1)) ∧
      (vf_n32 (FP.fdiv FP.fconst1 (FP.fadd l1 FP.fconst1))) ∧
      post (some (.float (FP.fdiv FP.fconst1 (FP.fadd l1 FP.fconst1)))) h
    ) else (
    post (some (.float l1)) h
    )))) :
    Wp G (m_X4_keyFor, d + 1, 0, 0, post) (0, 0) 0 [.int l0, .float l1] [] h := by
  refine w_iload_n dX4_keyFor_0 rfl ?_
  have sw : (l0 : Int32).toInt < 1 ∨ 3 < (l0 : Int32).toInt ∨ (l0 : Int32).toInt = 1 ∨ (l0 : Int32).toInt = 2 ∨ (l0 : Int32).toInt = 3 := by omega
  rcases sw with sw | sw | sw | sw | sw
  · refine w_tsw (tgt := 44) dX4_keyFor_1 (by rw [if_pos (by first | exact Or.inl sw | exact Or.inr sw)]; rfl) (by first | exact Or.inl sw | exact Or.inr (Or.inl sw)) ?_
    rw [if_neg (fun q => by rw [q] at sw; revert sw; decide)] at w
    rw [if_neg (fun q => by rw [q] at sw; revert sw; decide)] at w
    rw [if_neg (fun q => by rw [q] at sw; revert sw; decide)] at w
    refine w_fload_n dX4_keyFor_44 rfl ?_
    exact w_freturn dX4_keyFor_45 rfl ⟨Nat.le_refl _, Nat.le_refl _⟩ w
  · refine w_tsw (tgt := 44) dX4_keyFor_1 (by rw [if_pos (by first | exact Or.inl sw | exact Or.inr sw)]; rfl) (by first | exact Or.inl sw | exact Or.inr (Or.inl sw)) ?_
    rw [if_neg (fun q => by rw [q] at sw; revert sw; decide)] at w
    rw [if_neg (fun q => by rw [q] at sw; revert sw; decide)] at w
    rw [if_neg (fun q => by rw [q] at sw; revert sw; decide)] at w
    refine w_fload_n dX4_keyFor_44 rfl ?_
    exact w_freturn dX4_keyFor_45 rfl ⟨Nat.le_refl _, Nat.le_refl _⟩ w
  · have sv : (l0 : Int32) = 1 := Int32.toInt_inj.mp (sw.trans (by decide))
    refine w_tsw (tgt := 28) dX4_keyFor_1 (by rw [sw]; rfl) (by rw [sw]; decide) ?_
    rw [if_pos sv] at w
    refine w_fload_n dX4_keyFor_28 rfl ?_
    refine w_ldc_f (v := 1056964608) dX4_keyFor_29 g_701 ?_
    obtain ⟨e1, w⟩ := w
    refine w_fmul dX4_keyFor_31 e1 ?_
    exact w_freturn dX4_keyFor_32 rfl ⟨Nat.le_refl _, Nat.le_refl _⟩ w
  · have sv : (l0 : Int32) = 2 := Int32.toInt_inj.mp (sw.trans (by decide))
    refine w_tsw (tgt := 33) dX4_keyFor_1 (by rw [sw]; rfl) (by rw [sw]; decide) ?_
    rw [if_neg (fun q => by rw [q] at sw; revert sw; decide)] at w
    rw [if_pos sv] at w
    refine w_fload_n dX4_keyFor_33 rfl ?_
    refine w_ldc_f (v := 1036831949) dX4_keyFor_34 g_702 ?_
    obtain ⟨e1, w⟩ := w
    refine w_fadd dX4_keyFor_36 e1 ?_
    exact w_freturn dX4_keyFor_37 rfl ⟨Nat.le_refl _, Nat.le_refl _⟩ w
  · have sv : (l0 : Int32) = 3 := Int32.toInt_inj.mp (sw.trans (by decide))
    refine w_tsw (tgt := 38) dX4_keyFor_1 (by rw [sw]; rfl) (by rw [sw]; decide) ?_
    rw [if_neg (fun q => by rw [q] at sw; revert sw; decide)] at w
    rw [if_neg (fun q => by rw [q] at sw; revert sw; decide)] at w
    rw [if_pos sv] at w
    refine w_fconst1 dX4_keyFor_38 ?_
    refine w_fload_n dX4_keyFor_39 rfl ?_
    refine w_fconst1 dX4_keyFor_40 ?_
    obtain ⟨e1, w⟩ := w
    refine w_fadd dX4_keyFor_41 e1 ?_
    obtain ⟨e2, w⟩ := w
    refine w_fdiv dX4_keyFor_42 e2 ?_
    exact w_freturn dX4_keyFor_43 rfl ⟨Nat.le_refl _, Nat.le_refl _⟩ w
set_option maxRecDepth 20000 in
set_option maxHeartbeats 4000000 in
theorem x_X4_isTold {G : pm_G} {d : Nat} {post : pm_PT} {h : pm_H} {l0 : Nat} {l1 : Int64} (w :
    (h.1[l0]? = some (0, 4)) ∧
    (h.1[gp h l0 0]? = some (0, 3)) ∧
    ci G d m_X3_find [.ref (gp h l0 0), .long l1] h fun r1 h2 =>
    if r1 = (-1) then (
      (h2.1[l0]? = some (0, 4)) ∧
      (h2.1[gp h2 l0 1]? = some (0, 3)) ∧
      ci G d m_X3_find [.ref (gp h2 l0 1), .long l1] h2 fun r3 h4 =>
      if r3 = (-1) then (
        (h4.1[l0]? = some (0, 4)) ∧
        (h4.1[gp h4 l0 2]? = some (0, 3)) ∧
        ci G d m_X3_find [.ref (gp h4 l0 2), .long l1] h4 fun r5 h6 =>
        if r5 = (-1) then (
          post (some (.int 0)) h6
        ) else (
          post (some (.int 1)) h6
        )
      ) else (
        post (some (.int 1)) h4
      )
    ) else (
      post (some (.int 1)) h2
    )) :
    Wp G (m_X4_isTold, d + 1, 0, 0, post) (0, 0) 0 [.ref l0, .long l1, .null] [] h := by
  refine w_aload_n dX4_isTold_0 rfl ?_
  obtain ⟨e1, w⟩ := w
  refine w_getp dX4_isTold_1 lk_RX4_14 e1 rfl ?_
  refine w_lload_n dX4_isTold_4 rfl ?_
  obtain ⟨e2, w⟩ := w
  refine w_callV (As := [.long l1]) (st := []) dX4_isTold_5 mt_X3_find g_640 g_641 g_642 rfl e2 rfl rfl (Nat.le_of_ble_eq_true rfl) (Nat.le_refl _) ⟨Nat.le_refl _, Nat.le_refl _⟩ w ?_
  rintro v h2 ⟨r1, rfl, w⟩
  refine w_iconst (v := (-1)) dX4_isTold_8 rfl ?_
  refine w_ic_ne (tgt := 36) dX4_isTold_9 rfl (fun c => ?_) (fun c => ?_)
  · rw [if_neg c] at w
    refine w_iconst (v := 1) dX4_isTold_36 rfl ?_
    refine w_goto (tgt := 41) dX4_isTold_37 rfl ?_
    exact w_ireturn dX4_isTold_41 rfl rfl ⟨Nat.le_refl _, Nat.le_refl _⟩ w
  · rw [if_pos c] at w
    refine w_aload_n dX4_isTold_12 rfl ?_
    obtain ⟨e1, w⟩ := w
    refine w_getp dX4_isTold_13 lk_RX4_20 e1 rfl ?_
    refine w_lload_n dX4_isTold_16 rfl ?_
    obtain ⟨e2, w⟩ := w
    refine w_callV (As := [.long l1]) (st := []) dX4_isTold_17 mt_X3_find g_640 g_641 g_642 rfl e2 rfl rfl (Nat.le_of_ble_eq_true rfl) (Nat.le_refl _) ⟨Nat.le_refl _, Nat.le_refl _⟩ w ?_
    rintro v h4 ⟨r3, rfl, w⟩
    refine w_iconst (v := (-1)) dX4_isTold_20 rfl ?_
    refine w_ic_ne (tgt := 36) dX4_isTold_21 rfl (fun c => ?_) (fun c => ?_)
    · rw [if_neg c] at w
      refine w_iconst (v := 1) dX4_isTold_36 rfl ?_
      refine w_goto (tgt := 41) dX4_isTold_37 rfl ?_
      exact w_ireturn dX4_isTold_41 rfl rfl ⟨Nat.le_refl _, Nat.le_refl _⟩ w
    · rw [if_pos c] at w
      refine w_aload_n dX4_isTold_24 rfl ?_
      obtain ⟨e1, w⟩ := w
      refine w_getp dX4_isTold_25 lk_RX4_23 e1 rfl ?_
      refine w_lload_n dX4_isTold_28 rfl ?_
      obtain ⟨e2, w⟩ := w
      refine w_callV (As := [.long l1]) (st := []) dX4_isTold_29 mt_X3_find g_640 g_641 g_642 rfl e2 rfl rfl (Nat.le_of_ble_eq_true rfl) (Nat.le_refl _) ⟨Nat.le_refl _, Nat.le_refl _⟩ w ?_
      rintro v h6 ⟨r5, rfl, w⟩
      refine w_iconst (v := (-1)) dX4_isTold_32 rfl ?_
      refine w_ic_eq (tgt := 40) dX4_isTold_33 rfl (fun c => ?_) (fun c => ?_)
      · rw [if_pos c] at w
        refine w_iconst (v := 0) dX4_isTold_40 rfl ?_
        exact w_ireturn dX4_isTold_41 rfl rfl ⟨Nat.le_refl _, Nat.le_refl _⟩ w
      · rw [if_neg c] at w
        refine w_iconst (v := 1) dX4_isTold_36 rfl ?_
        refine w_goto (tgt := 41) dX4_isTold_37 rfl ?_
        exact w_ireturn dX4_isTold_41 rfl rfl ⟨Nat.le_refl _, Nat.le_refl _⟩ w
set_option maxRecDepth 20000 in
set_option maxHeartbeats 4000000 in
theorem x_X4_keyOf {G : pm_G} {d : Nat} {post : pm_PT} {h : pm_H} {l0 : Nat} {l1 : Int32} (w :
    if l1 < 0 then (
      post (some (.float FP.fconst0)) h
    ) else (
      (h.1[l0]? = some (0, 4)) ∧
      ∃ n1 : Nat, h.1[gp h l0 6]? = some (4, n1) ∧
      if (Int32.ofNat n1) ≤ l1 then (
        post (some (.float FP.fconst0)) h
      ) else (
        (vp_in l1 n1) ∧
        post (some (.float (gf h (gp h l0 6) (l1 : Int32).toNatClampNeg))) h
      )
    )) :
    Wp G (m_X4_keyOf, d + 1, 0, 0, post) (0, 0) 0 [.ref l0, .int l1] [] h := by
  refine w_iload_n dX4_keyOf_0 rfl ?_
  refine w_if_lt (tgt := 22) dX4_keyOf_1 rfl (fun c => ?_) (fun c => ?_)
  · rw [if_pos c] at w
    refine w_fconst0 dX4_keyOf_22 ?_
    exact w_freturn dX4_keyOf_23 rfl ⟨Nat.le_refl _, Nat.le_refl _⟩ w
  · rw [if_neg c] at w
    refine w_iload_n dX4_keyOf_4 rfl ?_
    refine w_aload_n dX4_keyOf_5 rfl ?_
    obtain ⟨e1, w⟩ := w
    refine w_getp dX4_keyOf_6 lk_RX4_39 e1 rfl ?_
    obtain ⟨n1, ln1, w⟩ := w
    refine w_alen dX4_keyOf_9 ln1 (by decide) rfl ?_
    refine w_ic_ge (tgt := 22) dX4_keyOf_10 rfl (fun c => ?_) (fun c => ?_)
    · rw [if_pos c] at w
      refine w_fconst0 dX4_keyOf_22 ?_
      exact w_freturn dX4_keyOf_23 rfl ⟨Nat.le_refl _, Nat.le_refl _⟩ w
    · rw [if_neg c] at w
      refine w_aload_n dX4_keyOf_13 rfl ?_
      refine w_getp dX4_keyOf_14 lk_RX4_39 e1 rfl ?_
      refine w_iload_n dX4_keyOf_17 rfl ?_
      obtain ⟨e3, w⟩ := w
      refine w_fald dX4_keyOf_18 ln1 e3 ?_
      refine w_goto (tgt := 23) dX4_keyOf_19 rfl ?_
      exact w_freturn dX4_keyOf_23 rfl ⟨Nat.le_refl _, Nat.le_refl _⟩ w
set_option maxRecDepth 20000 in
set_option maxHeartbeats 4000000 in
theorem x_X4_isAhead {G : pm_G} {d : Nat} {post : pm_PT} {h : pm_H} {l0 : Nat} {l1 : Int32} {l2 : Int32} (w :
    (h.1[l0]? = some (0, 4)) ∧
    cf G d m_X4_keyOf [.ref l0, .int l1] h fun r1 h2 =>
    (h2.1[l0]? = some (0, 4)) ∧
    cf G d m_X4_keyOf [.ref l0, .int l2] h2 fun r3 h4 =>
    if (Op.cmpValue (FP.fcmp r1 r3) .g) < 0 then (
      post (some (.int 1)) h4
    ) else (
      if (Op.cmpValue (FP.fcmp r1 r3) .l) = 0 then (
        if l2 ≤ l1 then (
          post (some (.int 0)) h4
        ) else (
          post (some (.int 1)) h4
        )
      ) else (
        post (some (.int 0)) h4
      )
    )) :
    Wp G (m_X4_isAhead, d + 1, 0, 0, post) (0, 0) 0 [.ref l0, .int l1, .int l2, .null, .null] [] h := by
  refine w_aload_n dX4_isAhead_0 rfl ?_
  refine w_iload_n dX4_isAhead_1 rfl ?_
  obtain ⟨e1, w⟩ := w
  refine w_callV (As := [.int l1]) (st := []) dX4_isAhead_2 mt_X4_keyOf g_779 g_780 g_781 rfl e1 rfl rfl (Nat.le_of_ble_eq_true rfl) (Nat.le_refl _) ⟨Nat.le_refl _, Nat.le_refl _⟩ w ?_
  rintro v h2 ⟨r1, rfl, w⟩
  refine v_fstore_n (l' := [.ref l0, .int l1, .int l2, .float r1, .null]) dX4_isAhead_5 (Nat.le_of_ble_eq_true rfl) rfl ?_
  refine w_aload_n dX4_isAhead_6 rfl ?_
  refine w_iload_n dX4_isAhead_7 rfl ?_
  obtain ⟨e1, w⟩ := w
  refine w_callV (As := [.int l2]) (st := []) dX4_isAhead_8 mt_X4_keyOf g_779 g_780 g_781 rfl e1 rfl rfl (Nat.le_of_ble_eq_true rfl) (Nat.le_refl _) ⟨Nat.le_refl _, Nat.le_refl _⟩ w ?_
  rintro v h4 ⟨r3, rfl, w⟩
  refine v_fstore (l' := [.ref l0, .int l1, .int l2, .float r1, .float r3]) dX4_isAhead_11 (Nat.le_of_ble_eq_true rfl) rfl ?_
  refine w_fload_n dX4_isAhead_13 rfl ?_
  refine w_fload dX4_isAhead_14 rfl ?_
  refine w_fcmp dX4_isAhead_16 ?_
  refine w_if_lt (tgt := 32) dX4_isAhead_17 rfl (fun c => ?_) (fun c => ?_)
  · rw [if_pos c] at w
    refine w_iconst (v := 1) dX4_isAhead_32 rfl ?_
    refine w_goto (tgt := 37) dX4_isAhead_33 rfl ?_
    exact w_ireturn dX4_isAhead_37 rfl rfl ⟨Nat.le_refl _, Nat.le_refl _⟩ w
  · rw [if_neg c] at w
    refine w_fload_n dX4_isAhead_20 rfl ?_
    refine w_fload dX4_isAhead_21 rfl ?_
    refine w_fcmp dX4_isAhead_23 ?_
    refine w_if_ne (tgt := 36) dX4_isAhead_24 rfl (fun c => ?_) (fun c => ?_)
    · rw [if_neg c] at w
      refine w_iconst (v := 0) dX4_isAhead_36 rfl ?_
      exact w_ireturn dX4_isAhead_37 rfl rfl ⟨Nat.le_refl _, Nat.le_refl _⟩ w
    · rw [if_pos c] at w
      refine w_iload_n dX4_isAhead_27 rfl ?_
      refine w_iload_n dX4_isAhead_28 rfl ?_
      refine w_ic_ge (tgt := 36) dX4_isAhead_29 rfl (fun c => ?_) (fun c => ?_)
      · rw [if_pos c] at w
        refine w_iconst (v := 0) dX4_isAhead_36 rfl ?_
        exact w_ireturn dX4_isAhead_37 rfl rfl ⟨Nat.le_refl _, Nat.le_refl _⟩ w
      · rw [if_neg c] at w
        refine w_iconst (v := 1) dX4_isAhead_32 rfl ?_
        refine w_goto (tgt := 37) dX4_isAhead_33 rfl ?_
        exact w_ireturn dX4_isAhead_37 rfl rfl ⟨Nat.le_refl _, Nat.le_refl _⟩ w
set_option maxRecDepth 20000 in
set_option maxHeartbeats 4000000 in
theorem x_X5_readQueue {G : pm_G} {d : Nat} {post : pm_PT} {h : pm_H} {l0 : Nat} {l1 : Nat} (w :
    (h.1[l0]? = some (0, 5)) ∧
    ∀ h1 : pm_H, h1 = si h l0 2 0 →
    ∀ h2 : pm_H, h2 = si h1 l0 3 0 →
    ∀ h3 : pm_H, h3 = si h2 l0 4 0 →
    (h.1[l1]? = some (0, 4)) ∧
    cv G d m_X4_clear [.ref l1] h3 fun h5 =>
    (h5.1[l0]? = some (0, 5)) ∧
    (h5.1[gp h5 l0 0]? = some (0, 7)) ∧
    cv G d m_X7_begin [.ref (gp h5 l0 0)] h5 fun h7 =>
    Wp G (m_X5_readQueue, d + 1, 0, 0, post) (0, 0) 28 [.ref l0, .ref l1, .int 0, .null] [] h7) :
    Wp G (m_X5_readQueue, d + 1, 0, 0, post) (0, 0) 0 [.ref l0, .ref l1, .null, .null] [] h := by
  refine w_aload_n dX5_readQueue_0 rfl ?_
  refine w_iconst (v := 0) dX5_readQueue_1 rfl ?_
  obtain ⟨e1, w⟩ := w
  refine w_puti dX5_readQueue_2 lk_RX5_9 e1 rfl (Or.inl rfl) ?_
  have w := w _ rfl
  refine w_aload_n dX5_readQueue_5 rfl ?_
  refine w_iconst (v := 0) dX5_readQueue_6 rfl ?_
  refine w_putz dX5_readQueue_7 lk_RX5_15 e1 rfl (Or.inl rfl) (by decide) ?_
  have w := w _ rfl
  refine w_aload_n dX5_readQueue_10 rfl ?_
  refine w_iconst (v := 0) dX5_readQueue_11 rfl ?_
  refine w_putz dX5_readQueue_12 lk_RX5_19 e1 rfl (Or.inl rfl) (by decide) ?_
  have w := w _ rfl
  refine w_aload_n dX5_readQueue_15 rfl ?_
  obtain ⟨e2, w⟩ := w
  refine w_callV (As := []) (st := []) dX5_readQueue_16 mt_X4_clear g_565 g_566 g_567 rfl e2 rfl rfl (Nat.le_of_ble_eq_true rfl) (Nat.le_refl _) ⟨Nat.le_refl _, Nat.le_refl _⟩ w ?_
  rintro v h5 ⟨rfl, w⟩
  refine w_aload_n dX5_readQueue_19 rfl ?_
  obtain ⟨e1, w⟩ := w
  refine w_getp dX5_readQueue_20 lk_RX5_22 e1 rfl ?_
  obtain ⟨e2, w⟩ := w
  refine w_callV (As := []) (st := []) dX5_readQueue_23 mt_X7_begin g_569 g_570 g_571 rfl e2 rfl rfl (Nat.le_of_ble_eq_true rfl) (Nat.le_refl _) ⟨Nat.le_refl _, Nat.le_refl _⟩ w ?_
  rintro v h7 ⟨rfl, w⟩
  refine w_iconst (v := 0) dX5_readQueue_26 rfl ?_
  refine v_istore_n (l' := [.ref l0, .ref l1, .int 0, .null]) dX5_readQueue_27 (Nat.le_of_ble_eq_true rfl) rfl ?_
  exact w
set_option maxRecDepth 20000 in
set_option maxHeartbeats 4000000 in
theorem x_X5_readQueue_28 {G : pm_G} {d : Nat} {post : pm_PT} {h : pm_H} {l0 : Nat} {l1 : Nat} {l2 : Int32} (w :
    if 1000 < l2 then (
      (h.1[l0]? = some (0, 5)) ∧
      post (some (.int (gi h l0 2))) h
    ) else (
      (h.1[l0]? = some (0, 5)) ∧
      if (gi h l0 2) = 0 then (
        (h.1[gp h l0 0]? = some (0, 7)) ∧
        if (gi h (gp h l0 0) 3) = 0 then (
          post (some (.int (gi h l0 2))) h
        ) else (
          ∃ i1 : Nat, i1 < 22 ∧ (gp h (gp h l0 0) 5) = 1000 + i1 ∧
          if i1 = 1 then (
            cv G d m_X5_readHeap [.ref l0, .ref l1] h fun h3 =>
            Wp G (m_X5_readQueue, d + 1, 0, 0, post) (0, 0) 28 [.ref l0, .ref l1, .int (l2 + 1), .null] [] h3
          ) else (
            ∃ i4 : Nat, i4 < 22 ∧ (gp h (gp h l0 0) 5) = 1000 + i4 ∧
            if i4 = 2 then (
              cv G d m_X5_readShelf [.ref l0, .ref l1] h fun h6 =>
              Wp G (m_X5_readQueue, d + 1, 0, 0, post) (0, 0) 28 [.ref l0, .ref l1, .int (l2 + 1), .null] [] h6
            ) else (
              ∃ i7 : Nat, i7 < 22 ∧ (gp h (gp h l0 0) 5) = 1000 + i7 ∧
              if i7 = 3 then (
                cv G d m_X5_readItem [.ref l0, .ref l1] h fun h9 =>
                Wp G (m_X5_readQueue, d + 1, 0, 0, post) (0, 0) 28 [.ref l0, .ref l1, .int (l2 + 1), .null] [] h9
              ) else (
                ∃ i10 : Nat, i10 < 22 ∧ (gp h (gp h l0 0) 5) = 1000 + i10 ∧
                if i10 = 6 then (
                  cv G d m_X5_readShare [.ref l0, .ref l1] h fun h12 =>
                  Wp G (m_X5_readQueue, d + 1, 0, 0, post) (0, 0) 28 [.ref l0, .ref l1, .int (l2 + 1), .null] [] h12
                ) else (
                  ∃ i13 : Nat, i13 < 22 ∧ (gp h (gp h l0 0) 5) = 1000 + i13 ∧
                  if i13 = 7 then (
                    cv G d m_X5_readGrows [.ref l0, .ref l1] h fun h15 =>
                    Wp G (m_X5_readQueue, d + 1, 0, 0, post) (0, 0) 28 [.ref l0, .ref l1, .int (l2 + 1), .null] [] h15
                  ) else (
                    cv G d m_X5_fail [.ref l0, .int 1] h fun h17 =>
                    Wp G (m_X5_readQueue, d + 1, 0, 0, post) (0, 0) 28 [.ref l0, .ref l1, .int (l2 + 1), .null] [] h17
                  )
                )
              )
            )
          )
        )
      ) else (
        post (some (.int (gi h l0 2))) h
      )
    )) :
    Wp G (m_X5_readQueue, d + 1, 0, 0, post) (0, 0) 28 [.ref l0, .ref l1, .int l2, .null] [] h := by
  refine w_iload_n dX5_readQueue_28 rfl ?_
  refine w_sipush (v := 1000) dX5_readQueue_29 rfl ?_
  refine w_ic_gt (tgt := 146) dX5_readQueue_32 rfl (fun c => ?_) (fun c => ?_)
  · rw [if_pos c] at w
    refine w_aload_n dX5_readQueue_146 rfl ?_
    obtain ⟨e1, w⟩ := w
    refine w_geti dX5_readQueue_147 lk_RX5_9 e1 rfl ?_
    exact w_ireturn dX5_readQueue_150 rfl rfl ⟨Nat.le_refl _, Nat.le_refl _⟩ w
  · rw [if_neg c] at w
    refine w_aload_n dX5_readQueue_35 rfl ?_
    obtain ⟨e1, w⟩ := w
    refine w_geti dX5_readQueue_36 lk_RX5_9 e1 rfl ?_
    refine w_if_ne (tgt := 146) dX5_readQueue_39 rfl (fun c => ?_) (fun c => ?_)
    · rw [if_neg c] at w
      refine w_aload_n dX5_readQueue_146 rfl ?_
      refine w_geti dX5_readQueue_147 lk_RX5_9 e1 rfl ?_
      exact w_ireturn dX5_readQueue_150 rfl rfl ⟨Nat.le_refl _, Nat.le_refl _⟩ w
    · rw [if_pos c] at w
      refine w_aload_n dX5_readQueue_42 rfl ?_
      refine w_getp dX5_readQueue_43 lk_RX5_22 e1 rfl ?_
      obtain ⟨e2, w⟩ := w
      refine w_geti dX5_readQueue_46 lk_RX5_45 e2 rfl ?_
      refine w_if_eq (tgt := 146) dX5_readQueue_49 rfl (fun c => ?_) (fun c => ?_)
      · rw [if_pos c] at w
        refine w_aload_n dX5_readQueue_146 rfl ?_
        refine w_geti dX5_readQueue_147 lk_RX5_9 e1 rfl ?_
        exact w_ireturn dX5_readQueue_150 rfl rfl ⟨Nat.le_refl _, Nat.le_refl _⟩ w
      · rw [if_neg c] at w
        refine w_aload_n dX5_readQueue_52 rfl ?_
        refine w_getp dX5_readQueue_53 lk_RX5_22 e1 rfl ?_
        refine w_getp dX5_readQueue_56 lk_RX5_48 e2 rfl ?_
        refine v_astore_n (l' := [.ref l0, .ref l1, .int l2, .ref (gp h (gp h l0 0) 5)]) dX5_readQueue_59 (Nat.le_of_ble_eq_true rfl) rfl ?_
        refine w_aload_n dX5_readQueue_60 rfl ?_
        refine w_getw (i := 1) dX5_readQueue_61 rfl g_609 ?_
        obtain ⟨i1, li1, qi1, w⟩ := w
        refine v_acmp_ne (tgt := 75) (i := i1) (j := 1) dX5_readQueue_64 rfl qi1 rfl li1 (by decide) (fun c => ?_) (fun c => ?_)
        · rw [if_neg c] at w
          refine w_aload_n dX5_readQueue_75 rfl ?_
          refine w_getw (i := 2) dX5_readQueue_76 rfl g_652 ?_
          obtain ⟨i4, li4, qi4, w⟩ := w
          refine v_acmp_ne (tgt := 90) (i := i4) (j := 2) dX5_readQueue_79 rfl qi4 rfl li4 (by decide) (fun c => ?_) (fun c => ?_)
          · rw [if_neg c] at w
            refine w_aload_n dX5_readQueue_90 rfl ?_
            refine w_getw (i := 3) dX5_readQueue_91 rfl g_671 ?_
            obtain ⟨i7, li7, qi7, w⟩ := w
            refine v_acmp_ne (tgt := 105) (i := i7) (j := 3) dX5_readQueue_94 rfl qi7 rfl li7 (by decide) (fun c => ?_) (fun c => ?_)
            · rw [if_neg c] at w
              refine w_aload_n dX5_readQueue_105 rfl ?_
              refine w_getw (i := 6) dX5_readQueue_106 rfl g_703 ?_
              obtain ⟨i10, li10, qi10, w⟩ := w
              refine v_acmp_ne (tgt := 120) (i := i10) (j := 6) dX5_readQueue_109 rfl qi10 rfl li10 (by decide) (fun c => ?_) (fun c => ?_)
              · rw [if_neg c] at w
                refine w_aload_n dX5_readQueue_120 rfl ?_
                refine w_getw (i := 7) dX5_readQueue_121 rfl g_709 ?_
                obtain ⟨i13, li13, qi13, w⟩ := w
                refine v_acmp_ne (tgt := 135) (i := i13) (j := 7) dX5_readQueue_124 rfl qi13 rfl li13 (by decide) (fun c => ?_) (fun c => ?_)
                · rw [if_neg c] at w
                  refine w_aload_n dX5_readQueue_135 rfl ?_
                  refine w_iconst (v := 1) dX5_readQueue_136 rfl ?_
                  refine w_callV (As := [.int 1]) (st := []) dX5_readQueue_137 mt_X5_fail g_619 g_621 g_6 rfl e1 rfl rfl (Nat.le_of_ble_eq_true rfl) (Nat.le_refl _) ⟨Nat.le_refl _, Nat.le_refl _⟩ w ?_
                  rintro v h17 ⟨rfl, w⟩
                  refine v_iinc (l' := [.ref l0, .ref l1, .int (l2 + 1), .ref (gp h (gp h l0 0) 5)]) (v := l2 + 1) dX5_readQueue_140 rfl rfl (Nat.le_of_ble_eq_true rfl) rfl ?_
                  refine w_goto (tgt := 28) dX5_readQueue_143 rfl ?_
                  exact w_drop (l' := [.ref l0, .ref l1, .int (l2 + 1), .null]) ⟨Or.inr rfl, Or.inr rfl, Or.inr rfl, Or.inl rfl, trivial⟩ w
                · rw [if_pos c] at w
                  refine w_aload_n dX5_readQueue_127 rfl ?_
                  refine w_aload_n dX5_readQueue_128 rfl ?_
                  refine w_callV (As := [.ref l1]) (st := []) dX5_readQueue_129 mt_X5_readGrows g_711 g_713 g_18 rfl e1 rfl rfl (Nat.le_of_ble_eq_true rfl) (Nat.le_refl _) ⟨Nat.le_refl _, Nat.le_refl _⟩ w ?_
                  rintro v h15 ⟨rfl, w⟩
                  refine w_goto (tgt := 140) dX5_readQueue_132 rfl ?_
                  refine v_iinc (l' := [.ref l0, .ref l1, .int (l2 + 1), .ref (gp h (gp h l0 0) 5)]) (v := l2 + 1) dX5_readQueue_140 rfl rfl (Nat.le_of_ble_eq_true rfl) rfl ?_
                  refine w_goto (tgt := 28) dX5_readQueue_143 rfl ?_
                  exact w_drop (l' := [.ref l0, .ref l1, .int (l2 + 1), .null]) ⟨Or.inr rfl, Or.inr rfl, Or.inr rfl, Or.inl rfl, trivial⟩ w
              · rw [if_pos c] at w
                refine w_aload_n dX5_readQueue_112 rfl ?_
                refine w_aload_n dX5_readQueue_113 rfl ?_
                refine w_callV (As := [.ref l1]) (st := []) dX5_readQueue_114 mt_X5_readShare g_705 g_707 g_17 rfl e1 rfl rfl (Nat.le_of_ble_eq_true rfl) (Nat.le_refl _) ⟨Nat.le_refl _, Nat.le_refl _⟩ w ?_
                rintro v h12 ⟨rfl, w⟩
                refine w_goto (tgt := 140) dX5_readQueue_117 rfl ?_
                refine v_iinc (l' := [.ref l0, .ref l1, .int (l2 + 1), .ref (gp h (gp h l0 0) 5)]) (v := l2 + 1) dX5_readQueue_140 rfl rfl (Nat.le_of_ble_eq_true rfl) rfl ?_
                refine w_goto (tgt := 28) dX5_readQueue_143 rfl ?_
                exact w_drop (l' := [.ref l0, .ref l1, .int (l2 + 1), .null]) ⟨Or.inr rfl, Or.inr rfl, Or.inr rfl, Or.inl rfl, trivial⟩ w
            · rw [if_pos c] at w
              refine w_aload_n dX5_readQueue_97 rfl ?_
              refine w_aload_n dX5_readQueue_98 rfl ?_
              refine w_callV (As := [.ref l1]) (st := []) dX5_readQueue_99 mt_X5_readItem g_673 g_675 g_13 rfl e1 rfl rfl (Nat.le_of_ble_eq_true rfl) (Nat.le_refl _) ⟨Nat.le_refl _, Nat.le_refl _⟩ w ?_
              rintro v h9 ⟨rfl, w⟩
              refine w_goto (tgt := 140) dX5_readQueue_102 rfl ?_
              refine v_iinc (l' := [.ref l0, .ref l1, .int (l2 + 1), .ref (gp h (gp h l0 0) 5)]) (v := l2 + 1) dX5_readQueue_140 rfl rfl (Nat.le_of_ble_eq_true rfl) rfl ?_
              refine w_goto (tgt := 28) dX5_readQueue_143 rfl ?_
              exact w_drop (l' := [.ref l0, .ref l1, .int (l2 + 1), .null]) ⟨Or.inr rfl, Or.inr rfl, Or.inr rfl, Or.inl rfl, trivial⟩ w
          · rw [if_pos c] at w
            refine w_aload_n dX5_readQueue_82 rfl ?_
            refine w_aload_n dX5_readQueue_83 rfl ?_
            refine w_callV (As := [.ref l1]) (st := []) dX5_readQueue_84 mt_X5_readShelf g_654 g_656 g_11 rfl e1 rfl rfl (Nat.le_of_ble_eq_true rfl) (Nat.le_refl _) ⟨Nat.le_refl _, Nat.le_refl _⟩ w ?_
            rintro v h6 ⟨rfl, w⟩
            refine w_goto (tgt := 140) dX5_readQueue_87 rfl ?_
            refine v_iinc (l' := [.ref l0, .ref l1, .int (l2 + 1), .ref (gp h (gp h l0 0) 5)]) (v := l2 + 1) dX5_readQueue_140 rfl rfl (Nat.le_of_ble_eq_true rfl) rfl ?_
            refine w_goto (tgt := 28) dX5_readQueue_143 rfl ?_
            exact w_drop (l' := [.ref l0, .ref l1, .int (l2 + 1), .null]) ⟨Or.inr rfl, Or.inr rfl, Or.inr rfl, Or.inl rfl, trivial⟩ w
        · rw [if_pos c] at w
          refine w_aload_n dX5_readQueue_67 rfl ?_
          refine w_aload_n dX5_readQueue_68 rfl ?_
          refine w_callV (As := [.ref l1]) (st := []) dX5_readQueue_69 mt_X5_readHeap g_611 g_613 g_4 rfl e1 rfl rfl (Nat.le_of_ble_eq_true rfl) (Nat.le_refl _) ⟨Nat.le_refl _, Nat.le_refl _⟩ w ?_
          rintro v h3 ⟨rfl, w⟩
          refine w_goto (tgt := 140) dX5_readQueue_72 rfl ?_
          refine v_iinc (l' := [.ref l0, .ref l1, .int (l2 + 1), .ref (gp h (gp h l0 0) 5)]) (v := l2 + 1) dX5_readQueue_140 rfl rfl (Nat.le_of_ble_eq_true rfl) rfl ?_
          refine w_goto (tgt := 28) dX5_readQueue_143 rfl ?_
          exact w_drop (l' := [.ref l0, .ref l1, .int (l2 + 1), .null]) ⟨Or.inr rfl, Or.inr rfl, Or.inr rfl, Or.inl rfl, trivial⟩ w
set_option maxRecDepth 20000 in
set_option maxHeartbeats 4000000 in
theorem x_X5_readHeap {G : pm_G} {d : Nat} {post : pm_PT} {h : pm_H} {l0 : Nat} {l1 : Nat} (w :
    (h.1[l1]? = some (0, 4)) ∧
    (h.1[gp h l1 0]? = some (0, 3)) ∧
    if (gi h (gp h l1 0) 1) < 3 then (
      (h.1[l0]? = some (0, 5)) ∧
      cv G d m_X5_begin [.ref l0, .int 0] h fun h2 =>
      (h2.1[l0]? = some (0, 5)) ∧
      cl G d m_X5_newName [.ref l0, .ref l1] h2 fun r3 h4 =>
      (h4.1[l0]? = some (0, 5)) ∧
      cv G d m_X5_expectEnd [.ref l0] h4 fun h6 =>
      (h6.1[l0]? = some (0, 5)) ∧
      if (gi h6 l0 2) = 0 then (
        (h6.1[l1]? = some (0, 4)) ∧
        (h6.1[gp h6 l1 0]? = some (0, 3)) ∧
        cv G d m_X3_add [.ref (gp h6 l1 0), .long r3] h6 fun h8 =>
        post none h8
      ) else (
        post none h6
      )
    ) else (
      (h.1[l0]? = some (0, 5)) ∧
      cv G d m_X5_begin [.ref l0, .int 5] h fun h10 =>
      (h10.1[l0]? = some (0, 5)) ∧
      cl G d m_X5_newName [.ref l0, .ref l1] h10 fun r11 h12 =>
      (h12.1[l0]? = some (0, 5)) ∧
      cv G d m_X5_expectEnd [.ref l0] h12 fun h14 =>
      (h14.1[l0]? = some (0, 5)) ∧
      if (gi h14 l0 2) = 0 then (
        (h14.1[l1]? = some (0, 4)) ∧
        (h14.1[gp h14 l1 0]? = some (0, 3)) ∧
        cv G d m_X3_add [.ref (gp h14 l1 0), .long r11] h14 fun h16 =>
        post none h16
      ) else (
        post none h14
      )
    )) :
    Wp G (m_X5_readHeap, d + 1, 0, 0, post) (0, 0) 0 [.ref l0, .ref l1, .null, .null] [] h := by
  refine w_aload_n dX5_readHeap_0 rfl ?_
  refine w_aload_n dX5_readHeap_1 rfl ?_
  obtain ⟨e1, w⟩ := w
  refine w_getp dX5_readHeap_2 lk_RX5_89 e1 rfl ?_
  obtain ⟨e2, w⟩ := w
  refine w_geti dX5_readHeap_5 lk_RX5_93 e2 rfl ?_
  refine w_iconst (v := 3) dX5_readHeap_8 rfl ?_
  refine w_ic_lt (tgt := 16) dX5_readHeap_9 rfl (fun c => ?_) (fun c => ?_)
  · rw [if_pos c] at w
    refine w_iconst (v := 0) dX5_readHeap_16 rfl ?_
    obtain ⟨e3, w⟩ := w
    refine w_callV (As := [.int 0]) (st := []) dX5_readHeap_17 mt_X5_begin g_615 g_617 g_5 rfl e3 rfl rfl (Nat.le_of_ble_eq_true rfl) (Nat.le_refl _) ⟨Nat.le_refl _, Nat.le_refl _⟩ w ?_
    rintro v h2 ⟨rfl, w⟩
    refine w_aload_n dX5_readHeap_20 rfl ?_
    refine w_aload_n dX5_readHeap_21 rfl ?_
    obtain ⟨e1, w⟩ := w
    refine w_callV (As := [.ref l1]) (st := []) dX5_readHeap_22 mt_X5_newName g_628 g_630 g_8 rfl e1 rfl rfl (Nat.le_of_ble_eq_true rfl) (Nat.le_refl _) ⟨Nat.le_refl _, Nat.le_refl _⟩ w ?_
    rintro v h4 ⟨r3, rfl, w⟩
    refine v_lstore_n (l' := [.ref l0, .ref l1, .long r3, .null]) dX5_readHeap_25 (Nat.le_of_ble_eq_true rfl) rfl ?_
    refine w_aload_n dX5_readHeap_26 rfl ?_
    obtain ⟨e1, w⟩ := w
    refine w_callV (As := []) (st := []) dX5_readHeap_27 mt_X5_expectEnd g_644 g_646 g_10 rfl e1 rfl rfl (Nat.le_of_ble_eq_true rfl) (Nat.le_refl _) ⟨Nat.le_refl _, Nat.le_refl _⟩ w ?_
    rintro v h6 ⟨rfl, w⟩
    refine w_aload_n dX5_readHeap_30 rfl ?_
    obtain ⟨e1, w⟩ := w
    refine w_geti dX5_readHeap_31 lk_RX5_9 e1 rfl ?_
    refine w_if_ne (tgt := 45) dX5_readHeap_34 rfl (fun c => ?_) (fun c => ?_)
    · rw [if_neg c] at w
      exact w_return dX5_readHeap_45 rfl ⟨Nat.le_refl _, Nat.le_refl _⟩ w
    · rw [if_pos c] at w
      refine w_aload_n dX5_readHeap_37 rfl ?_
      obtain ⟨e2, w⟩ := w
      refine w_getp dX5_readHeap_38 lk_RX5_89 e2 rfl ?_
      refine w_lload_n dX5_readHeap_41 rfl ?_
      obtain ⟨e3, w⟩ := w
      refine w_callV (As := [.long r3]) (st := []) dX5_readHeap_42 mt_X3_add g_648 g_649 g_650 rfl e3 rfl rfl (Nat.le_of_ble_eq_true rfl) (Nat.le_refl _) ⟨Nat.le_refl _, Nat.le_refl _⟩ w ?_
      rintro v h8 ⟨rfl, w⟩
      exact w_return dX5_readHeap_45 rfl ⟨Nat.le_refl _, Nat.le_refl _⟩ w
  · rw [if_neg c] at w
    refine w_iconst (v := 5) dX5_readHeap_12 rfl ?_
    refine w_goto (tgt := 17) dX5_readHeap_13 rfl ?_
    obtain ⟨e3, w⟩ := w
    refine w_callV (As := [.int 5]) (st := []) dX5_readHeap_17 mt_X5_begin g_615 g_617 g_5 rfl e3 rfl rfl (Nat.le_of_ble_eq_true rfl) (Nat.le_refl _) ⟨Nat.le_refl _, Nat.le_refl _⟩ w ?_
    rintro v h10 ⟨rfl, w⟩
    refine w_aload_n dX5_readHeap_20 rfl ?_
    refine w_aload_n dX5_readHeap_21 rfl ?_
    obtain ⟨e1, w⟩ := w
    refine w_callV (As := [.ref l1]) (st := []) dX5_readHeap_22 mt_X5_newName g_628 g_630 g_8 rfl e1 rfl rfl (Nat.le_of_ble_eq_true rfl) (Nat.le_refl _) ⟨Nat.le_refl _, Nat.le_refl _⟩ w ?_
    rintro v h12 ⟨r11, rfl, w⟩
    refine v_lstore_n (l' := [.ref l0, .ref l1, .long r11, .null]) dX5_readHeap_25 (Nat.le_of_ble_eq_true rfl) rfl ?_
    refine w_aload_n dX5_readHeap_26 rfl ?_
    obtain ⟨e1, w⟩ := w
    refine w_callV (As := []) (st := []) dX5_readHeap_27 mt_X5_expectEnd g_644 g_646 g_10 rfl e1 rfl rfl (Nat.le_of_ble_eq_true rfl) (Nat.le_refl _) ⟨Nat.le_refl _, Nat.le_refl _⟩ w ?_
    rintro v h14 ⟨rfl, w⟩
    refine w_aload_n dX5_readHeap_30 rfl ?_
    obtain ⟨e1, w⟩ := w
    refine w_geti dX5_readHeap_31 lk_RX5_9 e1 rfl ?_
    refine w_if_ne (tgt := 45) dX5_readHeap_34 rfl (fun c => ?_) (fun c => ?_)
    · rw [if_neg c] at w
      exact w_return dX5_readHeap_45 rfl ⟨Nat.le_refl _, Nat.le_refl _⟩ w
    · rw [if_pos c] at w
      refine w_aload_n dX5_readHeap_37 rfl ?_
      obtain ⟨e2, w⟩ := w
      refine w_getp dX5_readHeap_38 lk_RX5_89 e2 rfl ?_
      refine w_lload_n dX5_readHeap_41 rfl ?_
      obtain ⟨e3, w⟩ := w
      refine w_callV (As := [.long r11]) (st := []) dX5_readHeap_42 mt_X3_add g_648 g_649 g_650 rfl e3 rfl rfl (Nat.le_of_ble_eq_true rfl) (Nat.le_refl _) ⟨Nat.le_refl _, Nat.le_refl _⟩ w ?_
      rintro v h16 ⟨rfl, w⟩
      exact w_return dX5_readHeap_45 rfl ⟨Nat.le_refl _, Nat.le_refl _⟩ w
set_option maxRecDepth 20000 in
set_option maxHeartbeats 4000000 in
theorem x_X5_readShelf {G : pm_G} {d : Nat} {post : pm_PT} {h : pm_H} {l0 : Nat} {l1 : Nat} (w :
    (h.1[l1]? = some (0, 4)) ∧
    (h.1[gp h l1 1]? = some (0, 3)) ∧
    if (gi h (gp h l1 1) 1) < 2 then (
      (h.1[l0]? = some (0, 5)) ∧
      cv G d m_X5_begin [.ref l0, .int 0] h fun h2 =>
      (h2.1[l0]? = some (0, 5)) ∧
      cl G d m_X5_newName [.ref l0, .ref l1] h2 fun r3 h4 =>
      (h4.1[l0]? = some (0, 5)) ∧
      ci G d m_X5_toldKind [.ref l0] h4 fun r5 h6 =>
      (h6.1[l0]? = some (0, 5)) ∧
      cv G d m_X5_expectEnd [.ref l0] h6 fun h8 =>
      (h8.1[l0]? = some (0, 5)) ∧
      if (gi h8 l0 2) = 0 then (
        (h8.1[l1]? = some (0, 4)) ∧
        cv G d m_X4_addShelf [.ref l1, .long r3, .int r5] h8 fun h10 =>
        post none h10
      ) else (
        post none h8
      )
    ) else (
      (h.1[l0]? = some (0, 5)) ∧
      cv G d m_X5_begin [.ref l0, .int 5] h fun h12 =>
      (h12.1[l0]? = some (0, 5)) ∧
      cl G d m_X5_newName [.ref l0, .ref l1] h12 fun r13 h14 =>
      (h14.1[l0]? = some (0, 5)) ∧
      ci G d m_X5_toldKind [.ref l0] h14 fun r15 h16 =>
      (h16.1[l0]? = some (0, 5)) ∧
      cv G d m_X5_expectEnd [.ref l0] h16 fun h18 =>
      (h18.1[l0]? = some (0, 5)) ∧
      if (gi h18 l0 2) = 0 then (
        (h18.1[l1]? = some (0, 4)) ∧
        cv G d m_X4_addShelf [.ref l1, .long r13, .int r15] h18 fun h20 =>
        post none h20
      ) else (
        post none h18
      )
    )) :
    Wp G (m_X5_readShelf, d + 1, 0, 0, post) (0, 0) 0 [.ref l0, .ref l1, .null, .null, .null] [] h := by
  refine w_aload_n dX5_readShelf_0 rfl ?_
  refine w_aload_n dX5_readShelf_1 rfl ?_
  obtain ⟨e1, w⟩ := w
  refine w_getp dX5_readShelf_2 lk_RX5_111 e1 rfl ?_
  obtain ⟨e2, w⟩ := w
  refine w_geti dX5_readShelf_5 lk_RX5_93 e2 rfl ?_
  refine w_iconst (v := 2) dX5_readShelf_8 rfl ?_
  refine w_ic_lt (tgt := 16) dX5_readShelf_9 rfl (fun c => ?_) (fun c => ?_)
  · rw [if_pos c] at w
    refine w_iconst (v := 0) dX5_readShelf_16 rfl ?_
    obtain ⟨e3, w⟩ := w
    refine w_callV (As := [.int 0]) (st := []) dX5_readShelf_17 mt_X5_begin g_615 g_617 g_5 rfl e3 rfl rfl (Nat.le_of_ble_eq_true rfl) (Nat.le_refl _) ⟨Nat.le_refl _, Nat.le_refl _⟩ w ?_
    rintro v h2 ⟨rfl, w⟩
    refine w_aload_n dX5_readShelf_20 rfl ?_
    refine w_aload_n dX5_readShelf_21 rfl ?_
    obtain ⟨e1, w⟩ := w
    refine w_callV (As := [.ref l1]) (st := []) dX5_readShelf_22 mt_X5_newName g_628 g_630 g_8 rfl e1 rfl rfl (Nat.le_of_ble_eq_true rfl) (Nat.le_refl _) ⟨Nat.le_refl _, Nat.le_refl _⟩ w ?_
    rintro v h4 ⟨r3, rfl, w⟩
    refine v_lstore_n (l' := [.ref l0, .ref l1, .long r3, .null, .null]) dX5_readShelf_25 (Nat.le_of_ble_eq_true rfl) rfl ?_
    refine w_aload_n dX5_readShelf_26 rfl ?_
    obtain ⟨e1, w⟩ := w
    refine w_callV (As := []) (st := []) dX5_readShelf_27 mt_X5_toldKind g_658 g_660 g_12 rfl e1 rfl rfl (Nat.le_of_ble_eq_true rfl) (Nat.le_refl _) ⟨Nat.le_refl _, Nat.le_refl _⟩ w ?_
    rintro v h6 ⟨r5, rfl, w⟩
    refine v_istore (l' := [.ref l0, .ref l1, .long r3, .null, .int r5]) dX5_readShelf_30 (Nat.le_of_ble_eq_true rfl) rfl ?_
    refine w_aload_n dX5_readShelf_32 rfl ?_
    obtain ⟨e1, w⟩ := w
    refine w_callV (As := []) (st := []) dX5_readShelf_33 mt_X5_expectEnd g_644 g_646 g_10 rfl e1 rfl rfl (Nat.le_of_ble_eq_true rfl) (Nat.le_refl _) ⟨Nat.le_refl _, Nat.le_refl _⟩ w ?_
    rintro v h8 ⟨rfl, w⟩
    refine w_aload_n dX5_readShelf_36 rfl ?_
    obtain ⟨e1, w⟩ := w
    refine w_geti dX5_readShelf_37 lk_RX5_9 e1 rfl ?_
    refine w_if_ne (tgt := 50) dX5_readShelf_40 rfl (fun c => ?_) (fun c => ?_)
    · rw [if_neg c] at w
      exact w_return dX5_readShelf_50 rfl ⟨Nat.le_refl _, Nat.le_refl _⟩ w
    · rw [if_pos c] at w
      refine w_aload_n dX5_readShelf_43 rfl ?_
      refine w_lload_n dX5_readShelf_44 rfl ?_
      refine w_iload dX5_readShelf_45 rfl ?_
      obtain ⟨e2, w⟩ := w
      refine w_callV (As := [.long r3, .int r5]) (st := []) dX5_readShelf_47 mt_X4_addShelf g_662 g_663 g_664 rfl e2 rfl rfl (Nat.le_of_ble_eq_true rfl) (Nat.le_refl _) ⟨Nat.le_refl _, Nat.le_refl _⟩ w ?_
      rintro v h10 ⟨rfl, w⟩
      exact w_return dX5_readShelf_50 rfl ⟨Nat.le_refl _, Nat.le_refl _⟩ w
  · rw [if_neg c] at w
    refine w_iconst (v := 5) dX5_readShelf_12 rfl ?_
    refine w_goto (tgt := 17) dX5_readShelf_13 rfl ?_
    obtain ⟨e3, w⟩ := w
    refine w_callV (As := [.int 5]) (st := []) dX5_readShelf_17 mt_X5_begin g_615 g_617 g_5 rfl e3 rfl rfl (Nat.le_of_ble_eq_true rfl) (Nat.le_refl _) ⟨Nat.le_refl _, Nat.le_refl _⟩ w ?_
    rintro v h12 ⟨rfl, w⟩
    refine w_aload_n dX5_readShelf_20 rfl ?_
    refine w_aload_n dX5_readShelf_21 rfl ?_
    obtain ⟨e1, w⟩ := w
    refine w_callV (As := [.ref l1]) (st := []) dX5_readShelf_22 mt_X5_newName g_628 g_630 g_8 rfl e1 rfl rfl (Nat.le_of_ble_eq_true rfl) (Nat.le_refl _) ⟨Nat.le_refl _, Nat.le_refl _⟩ w ?_
    rintro v h14 ⟨r13, rfl, w⟩
    refine v_lstore_n (l' := [.ref l0, .ref l1, .long r13, .null, .null]) dX5_readShelf_25 (Nat.le_of_ble_eq_true rfl) rfl ?_
    refine w_aload_n dX5_readShelf_26 rfl ?_
    obtain ⟨e1, w⟩ := w
    refine w_callV (As := []) (st := []) dX5_readShelf_27 mt_X5_toldKind g_658 g_660 g_12 rfl e1 rfl rfl (Nat.le_of_ble_eq_true rfl) (Nat.le_refl _) ⟨Nat.le_refl _, Nat.le_refl _⟩ w ?_
    rintro v h16 ⟨r15, rfl, w⟩
    refine v_istore (l' := [.ref l0, .ref l1, .long r13, .null, .int r15]) dX5_readShelf_30 (Nat.le_of_ble_eq_true rfl) rfl ?_
    refine w_aload_n dX5_readShelf_32 rfl ?_
    obtain ⟨e1, w⟩ := w
    refine w_callV (As := []) (st := []) dX5_readShelf_33 mt_X5_expectEnd g_644 g_646 g_10 rfl e1 rfl rfl (Nat.le_of_ble_eq_true rfl) (Nat.le_refl _) ⟨Nat.le_refl _, Nat.le_refl _⟩ w ?_
    rintro v h18 ⟨rfl, w⟩
    refine w_aload_n dX5_readShelf_36 rfl ?_
    obtain ⟨e1, w⟩ := w
    refine w_geti dX5_readShelf_37 lk_RX5_9 e1 rfl ?_
    refine w_if_ne (tgt := 50) dX5_readShelf_40 rfl (fun c => ?_) (fun c => ?_)
    · rw [if_neg c] at w
      exact w_return dX5_readShelf_50 rfl ⟨Nat.le_refl _, Nat.le_refl _⟩ w
    · rw [if_pos c] at w
      refine w_aload_n dX5_readShelf_43 rfl ?_
      refine w_lload_n dX5_readShelf_44 rfl ?_
      refine w_iload dX5_readShelf_45 rfl ?_
      obtain ⟨e2, w⟩ := w
      refine w_callV (As := [.long r13, .int r15]) (st := []) dX5_readShelf_47 mt_X4_addShelf g_662 g_663 g_664 rfl e2 rfl rfl (Nat.le_of_ble_eq_true rfl) (Nat.le_refl _) ⟨Nat.le_refl _, Nat.le_refl _⟩ w ?_
      rintro v h20 ⟨rfl, w⟩
      exact w_return dX5_readShelf_50 rfl ⟨Nat.le_refl _, Nat.le_refl _⟩ w
set_option maxRecDepth 20000 in
set_option maxHeartbeats 4000000 in
theorem x_X5_readItem {G : pm_G} {d : Nat} {post : pm_PT} {h : pm_H} {l0 : Nat} {l1 : Nat} (w :
    (h.1[l1]? = some (0, 4)) ∧
    (h.1[gp h l1 2]? = some (0, 3)) ∧
    if (gi h (gp h l1 2) 1) < 20 then (
      (h.1[l0]? = some (0, 5)) ∧
      cv G d m_X5_begin [.ref l0, .int 0] h fun h2 =>
      (h2.1[l0]? = some (0, 5)) ∧
      cl G d m_X5_newName [.ref l0, .ref l1] h2 fun r3 h4 =>
      (h4.1[l0]? = some (0, 5)) ∧
      ci G d m_X5_toldKind [.ref l0] h4 fun r5 h6 =>
      (h6.1[l0]? = some (0, 5)) ∧
      ci G d m_X5_toldNumber [.ref l0, .int 0, .int 999] h6 fun r7 h8 =>
      (h8.1[l0]? = some (0, 5)) ∧
      cv G d m_X5_expect [.ref l0, .ref 1004] h8 fun h10 =>
      (h10.1[l0]? = some (0, 5)) ∧
      ci G d m_X5_toldNumber [.ref l0, .int 1, .int 99] h10 fun r11 h12 =>
      (h12.1[l0]? = some (0, 5)) ∧
      cv G d m_X5_expect [.ref l0, .ref 1005] h12 fun h14 =>
      (h14.1[l1]? = some (0, 4)) ∧
      (h14.1[l0]? = some (0, 5)) ∧
      ci G d m_X5_oldName [.ref l0, .ref (gp h14 l1 0), .int (-1)] h14 fun r15 h16 =>
      (h16.1[l0]? = some (0, 5)) ∧
      cv G d m_X5_expectEnd [.ref l0] h16 fun h18 =>
      (h18.1[l0]? = some (0, 5)) ∧
      if (gi h18 l0 2) = 0 then (
        if r11 ≤ 0 then (
          post none h18
        ) else (
          (vf_n32 (FP.fdiv (FP.i2f r7) (FP.i2f r11))) ∧
          (h18.1[l1]? = some (0, 4)) ∧
          cv G d m_X4_addItem [.ref l1, .long r3, .int r5, .float (FP.fdiv (FP.i2f r7) (FP.i2f r11)), .int r15] h18 fun h20 =>
          post none h20
        )
      ) else (
        post none h18
      )
    ) else (
      (h.1[l0]? = some (0, 5)) ∧
      cv G d m_X5_begin [.ref l0, .int 5] h fun h22 =>
      (h22.1[l0]? = some (0, 5)) ∧
      cl G d m_X5_newName [.ref l0, .ref l1] h22 fun r23 h24 =>
      (h24.1[l0]? = some (0, 5)) ∧
      ci G d m_X5_toldKind [.ref l0] h24 fun r25 h26 =>
      (h26.1[l0]? = some (0, 5)) ∧
      ci G d m_X5_toldNumber [.ref l0, .int 0, .int 999] h26 fun r27 h28 =>
      (h28.1[l0]? = some (0, 5)) ∧
      cv G d m_X5_expect [.ref l0, .ref 1004] h28 fun h30 =>
      (h30.1[l0]? = some (0, 5)) ∧
      ci G d m_X5_toldNumber [.ref l0, .int 1, .int 99] h30 fun r31 h32 =>
      (h32.1[l0]? = some (0, 5)) ∧
      cv G d m_X5_expect [.ref l0, .ref 1005] h32 fun h34 =>
      (h34.1[l1]? = some (0, 4)) ∧
      (h34.1[l0]? = some (0, 5)) ∧
      ci G d m_X5_oldName [.ref l0, .ref (gp h34 l1 0), .int (-1)] h34 fun r35 h36 =>
      (h36.1[l0]? = some (0, 5)) ∧
      cv G d m_X5_expectEnd [.ref l0] h36 fun h38 =>
      (h38.1[l0]? = some (0, 5)) ∧
      if (gi h38 l0 2) = 0 then (
        if r31 ≤ 0 then (
          post none h38
        ) else (
          (vf_n32 (FP.fdiv (FP.i2f r27) (FP.i2f r31))) ∧
          (h38.1[l1]? = some (0, 4)) ∧
          cv G d m_X4_addItem [.ref l1, .long r23, .int r25, .float (FP.fdiv (FP.i2f r27) (FP.i2f r31)), .int r35] h38 fun h40 =>
          post none h40
        )
      ) else (
        post none h38
      )
    )) :
    Wp G (m_X5_readItem, d + 1, 0, 0, post) (0, 0) 0 [.ref l0, .ref l1, .null, .null, .null, .null, .null, .null] [] h := by
  refine w_aload_n dX5_readItem_0 rfl ?_
  refine w_aload_n dX5_readItem_1 rfl ?_
  obtain ⟨e1, w⟩ := w
  refine w_getp dX5_readItem_2 lk_RX5_122 e1 rfl ?_
  obtain ⟨e2, w⟩ := w
  refine w_geti dX5_readItem_5 lk_RX5_93 e2 rfl ?_
  refine w_bipush (v := 20) dX5_readItem_8 rfl ?_
  refine w_ic_lt (tgt := 17) dX5_readItem_10 rfl (fun c => ?_) (fun c => ?_)
  · rw [if_pos c] at w
    refine w_iconst (v := 0) dX5_readItem_17 rfl ?_
    obtain ⟨e3, w⟩ := w
    refine w_callV (As := [.int 0]) (st := []) dX5_readItem_18 mt_X5_begin g_615 g_617 g_5 rfl e3 rfl rfl (Nat.le_of_ble_eq_true rfl) (Nat.le_refl _) ⟨Nat.le_refl _, Nat.le_refl _⟩ w ?_
    rintro v h2 ⟨rfl, w⟩
    refine w_aload_n dX5_readItem_21 rfl ?_
    refine w_aload_n dX5_readItem_22 rfl ?_
    obtain ⟨e1, w⟩ := w
    refine w_callV (As := [.ref l1]) (st := []) dX5_readItem_23 mt_X5_newName g_628 g_630 g_8 rfl e1 rfl rfl (Nat.le_of_ble_eq_true rfl) (Nat.le_refl _) ⟨Nat.le_refl _, Nat.le_refl _⟩ w ?_
    rintro v h4 ⟨r3, rfl, w⟩
    refine v_lstore_n (l' := [.ref l0, .ref l1, .long r3, .null, .null, .null, .null, .null]) dX5_readItem_26 (Nat.le_of_ble_eq_true rfl) rfl ?_
    refine w_aload_n dX5_readItem_27 rfl ?_
    obtain ⟨e1, w⟩ := w
    refine w_callV (As := []) (st := []) dX5_readItem_28 mt_X5_toldKind g_658 g_660 g_12 rfl e1 rfl rfl (Nat.le_of_ble_eq_true rfl) (Nat.le_refl _) ⟨Nat.le_refl _, Nat.le_refl _⟩ w ?_
    rintro v h6 ⟨r5, rfl, w⟩
    refine v_istore (l' := [.ref l0, .ref l1, .long r3, .null, .int r5, .null, .null, .null]) dX5_readItem_31 (Nat.le_of_ble_eq_true rfl) rfl ?_
    refine w_aload_n dX5_readItem_33 rfl ?_
    refine w_iconst (v := 0) dX5_readItem_34 rfl ?_
    refine w_sipush (v := 999) dX5_readItem_35 rfl ?_
    obtain ⟨e1, w⟩ := w
    refine w_callV (As := [.int 0, .int 999]) (st := []) dX5_readItem_38 mt_X5_toldNumber g_677 g_679 g_14 rfl e1 rfl rfl (Nat.le_of_ble_eq_true rfl) (Nat.le_refl _) ⟨Nat.le_refl _, Nat.le_refl _⟩ w ?_
    rintro v h8 ⟨r7, rfl, w⟩
    refine v_istore (l' := [.ref l0, .ref l1, .long r3, .null, .int r5, .int r7, .null, .null]) dX5_readItem_41 (Nat.le_of_ble_eq_true rfl) rfl ?_
    refine w_aload_n dX5_readItem_43 rfl ?_
    refine w_getw (i := 4) dX5_readItem_44 rfl g_681 ?_
    obtain ⟨e1, w⟩ := w
    refine w_callV (As := [.ref 1004]) (st := []) dX5_readItem_47 mt_X5_expect g_683 g_685 g_15 rfl e1 rfl rfl (Nat.le_of_ble_eq_true rfl) (Nat.le_refl _) ⟨Nat.le_refl _, Nat.le_refl _⟩ w ?_
    rintro v h10 ⟨rfl, w⟩
    refine w_aload_n dX5_readItem_50 rfl ?_
    refine w_iconst (v := 1) dX5_readItem_51 rfl ?_
    refine w_bipush (v := 99) dX5_readItem_52 rfl ?_
    obtain ⟨e1, w⟩ := w
    refine w_callV (As := [.int 1, .int 99]) (st := []) dX5_readItem_54 mt_X5_toldNumber g_677 g_679 g_14 rfl e1 rfl rfl (Nat.le_of_ble_eq_true rfl) (Nat.le_refl _) ⟨Nat.le_refl _, Nat.le_refl _⟩ w ?_
    rintro v h12 ⟨r11, rfl, w⟩
    refine v_istore (l' := [.ref l0, .ref l1, .long r3, .null, .int r5, .int r7, .int r11, .null]) dX5_readItem_57 (Nat.le_of_ble_eq_true rfl) rfl ?_
    refine w_aload_n dX5_readItem_59 rfl ?_
    refine w_getw (i := 5) dX5_readItem_60 rfl g_687 ?_
    obtain ⟨e1, w⟩ := w
    refine w_callV (As := [.ref 1005]) (st := []) dX5_readItem_63 mt_X5_expect g_683 g_685 g_15 rfl e1 rfl rfl (Nat.le_of_ble_eq_true rfl) (Nat.le_refl _) ⟨Nat.le_refl _, Nat.le_refl _⟩ w ?_
    rintro v h14 ⟨rfl, w⟩
    refine w_aload_n dX5_readItem_66 rfl ?_
    refine w_aload_n dX5_readItem_67 rfl ?_
    obtain ⟨e1, w⟩ := w
    refine w_getp dX5_readItem_68 lk_RX5_89 e1 rfl ?_
    refine w_iconst (v := (-1)) dX5_readItem_71 rfl ?_
    obtain ⟨e2, w⟩ := w
    refine w_callV (As := [.ref (gp h14 l1 0), .int (-1)]) (st := []) dX5_readItem_72 mt_X5_oldName g_689 g_691 g_16 rfl e2 rfl rfl (Nat.le_of_ble_eq_true rfl) (Nat.le_refl _) ⟨Nat.le_refl _, Nat.le_refl _⟩ w ?_
    rintro v h16 ⟨r15, rfl, w⟩
    refine v_istore (l' := [.ref l0, .ref l1, .long r3, .null, .int r5, .int r7, .int r11, .int r15]) dX5_readItem_75 (Nat.le_of_ble_eq_true rfl) rfl ?_
    refine w_aload_n dX5_readItem_77 rfl ?_
    obtain ⟨e1, w⟩ := w
    refine w_callV (As := []) (st := []) dX5_readItem_78 mt_X5_expectEnd g_644 g_646 g_10 rfl e1 rfl rfl (Nat.le_of_ble_eq_true rfl) (Nat.le_refl _) ⟨Nat.le_refl _, Nat.le_refl _⟩ w ?_
    rintro v h18 ⟨rfl, w⟩
    refine w_aload_n dX5_readItem_81 rfl ?_
    obtain ⟨e1, w⟩ := w
    refine w_geti dX5_readItem_82 lk_RX5_9 e1 rfl ?_
    refine w_if_ne (tgt := 109) dX5_readItem_85 rfl (fun c => ?_) (fun c => ?_)
    · rw [if_neg c] at w
      exact w_return dX5_readItem_109 rfl ⟨Nat.le_refl _, Nat.le_refl _⟩ w
    · rw [if_pos c] at w
      refine w_iload dX5_readItem_88 rfl ?_
      refine w_if_le (tgt := 109) dX5_readItem_90 rfl (fun c => ?_) (fun c => ?_)
      · rw [if_pos c] at w
        exact w_return dX5_readItem_109 rfl ⟨Nat.le_refl _, Nat.le_refl _⟩ w
      · rw [if_neg c] at w
        refine w_aload_n dX5_readItem_93 rfl ?_
        refine w_lload_n dX5_readItem_94 rfl ?_
        refine w_iload dX5_readItem_95 rfl ?_
        refine w_iload dX5_readItem_97 rfl ?_
        refine w_i2f dX5_readItem_99 ?_
        refine w_iload dX5_readItem_100 rfl ?_
        refine w_i2f dX5_readItem_102 ?_
        obtain ⟨e2, w⟩ := w
        refine w_fdiv dX5_readItem_103 e2 ?_
        refine w_iload dX5_readItem_104 rfl ?_
        obtain ⟨e3, w⟩ := w
        refine w_callV (As := [.long r3, .int r5, .float (FP.fdiv (FP.i2f r7) (FP.i2f r11)), .int r15]) (st := []) dX5_readItem_106 mt_X4_addItem g_694 g_695 g_696 rfl e3 rfl rfl (Nat.le_of_ble_eq_true rfl) (Nat.le_refl _) ⟨Nat.le_refl _, Nat.le_refl _⟩ w ?_
        rintro v h20 ⟨rfl, w⟩
        exact w_return dX5_readItem_109 rfl ⟨Nat.le_refl _, Nat.le_refl _⟩ w
  · rw [if_neg c] at w
    refine w_iconst (v := 5) dX5_readItem_13 rfl ?_
    refine w_goto (tgt := 18) dX5_readItem_14 rfl ?_
    obtain ⟨e3, w⟩ := w
    refine w_callV (As := [.int 5]) (st := []) dX5_readItem_18 mt_X5_begin g_615 g_617 g_5 rfl e3 rfl rfl (Nat.le_of_ble_eq_true rfl) (Nat.le_refl _) ⟨Nat.le_refl _, Nat.le_refl _⟩ w ?_
    rintro v h22 ⟨rfl, w⟩
    refine w_aload_n dX5_readItem_21 rfl ?_
    refine w_aload_n dX5_readItem_22 rfl ?_
    obtain ⟨e1, w⟩ := w
    refine w_callV (As := [.ref l1]) (st := []) dX5_readItem_23 mt_X5_newName g_628 g_630 g_8 rfl e1 rfl rfl (Nat.le_of_ble_eq_true rfl) (Nat.le_refl _) ⟨Nat.le_refl _, Nat.le_refl _⟩ w ?_
    rintro v h24 ⟨r23, rfl, w⟩
    refine v_lstore_n (l' := [.ref l0, .ref l1, .long r23, .null, .null, .null, .null, .null]) dX5_readItem_26 (Nat.le_of_ble_eq_true rfl) rfl ?_
    refine w_aload_n dX5_readItem_27 rfl ?_
    obtain ⟨e1, w⟩ := w
    refine w_callV (As := []) (st := []) dX5_readItem_28 mt_X5_toldKind g_658 g_660 g_12 rfl e1 rfl rfl (Nat.le_of_ble_eq_true rfl) (Nat.le_refl _) ⟨Nat.le_refl _, Nat.le_refl _⟩ w ?_
    rintro v h26 ⟨r25, rfl, w⟩
    refine v_istore (l' := [.ref l0, .ref l1, .long r23, .null, .int r25, .null, .null, .null]) dX5_readItem_31 (Nat.le_of_ble_eq_true rfl) rfl ?_
    refine w_aload_n dX5_readItem_33 rfl ?_
    refine w_iconst (v := 0) dX5_readItem_34 rfl ?_
    refine w_sipush (v := 999) dX5_readItem_35 rfl ?_
    obtain ⟨e1, w⟩ := w
    refine w_callV (As := [.int 0, .int 999]) (st := []) dX5_readItem_38 mt_X5_toldNumber g_677 g_679 g_14 rfl e1 rfl rfl (Nat.le_of_ble_eq_true rfl) (Nat.le_refl _) ⟨Nat.le_refl _, Nat.le_refl _⟩ w ?_
    rintro v h28 ⟨r27, rfl, w⟩
    refine v_istore (l' := [.ref l0, .ref l1, .long r23, .null, .int r25, .int r27, .null, .null]) dX5_readItem_41 (Nat.le_of_ble_eq_true rfl) rfl ?_
    refine w_aload_n dX5_readItem_43 rfl ?_
    refine w_getw (i := 4) dX5_readItem_44 rfl g_681 ?_
    obtain ⟨e1, w⟩ := w
    refine w_callV (As := [.ref 1004]) (st := []) dX5_readItem_47 mt_X5_expect g_683 g_685 g_15 rfl e1 rfl rfl (Nat.le_of_ble_eq_true rfl) (Nat.le_refl _) ⟨Nat.le_refl _, Nat.le_refl _⟩ w ?_
    rintro v h30 ⟨rfl, w⟩
    refine w_aload_n dX5_readItem_50 rfl ?_
    refine w_iconst (v := 1) dX5_readItem_51 rfl ?_
    refine w_bipush (v := 99) dX5_readItem_52 rfl ?_
    obtain ⟨e1, w⟩ := w
    refine w_callV (As := [.int 1, .int 99]) (st := []) dX5_readItem_54 mt_X5_toldNumber g_677 g_679 g_14 rfl e1 rfl rfl (Nat.le_of_ble_eq_true rfl) (Nat.le_refl _) ⟨Nat.le_refl _, Nat.le_refl _⟩ w ?_
    rintro v h32 ⟨r31, rfl, w⟩
    refine v_istore (l' := [.ref l0, .ref l1, .long r23, .null, .int r25, .int r27, .int r31, .null]) dX5_readItem_57 (Nat.le_of_ble_eq_true rfl) rfl ?_
    refine w_aload_n dX5_readItem_59 rfl ?_
    refine w_getw (i := 5) dX5_readItem_60 rfl g_687 ?_
    obtain ⟨e1, w⟩ := w
    refine w_callV (As := [.ref 1005]) (st := []) dX5_readItem_63 mt_X5_expect g_683 g_685 g_15 rfl e1 rfl rfl (Nat.le_of_ble_eq_true rfl) (Nat.le_refl _) ⟨Nat.le_refl _, Nat.le_refl _⟩ w ?_
    rintro v h34 ⟨rfl, w⟩
    refine w_aload_n dX5_readItem_66 rfl ?_
    refine w_aload_n dX5_readItem_67 rfl ?_
    obtain ⟨e1, w⟩ := w
    refine w_getp dX5_readItem_68 lk_RX5_89 e1 rfl ?_
    refine w_iconst (v := (-1)) dX5_readItem_71 rfl ?_
    obtain ⟨e2, w⟩ := w
    refine w_callV (As := [.ref (gp h34 l1 0), .int (-1)]) (st := []) dX5_readItem_72 mt_X5_oldName g_689 g_691 g_16 rfl e2 rfl rfl (Nat.le_of_ble_eq_true rfl) (Nat.le_refl _) ⟨Nat.le_refl _, Nat.le_refl _⟩ w ?_
    rintro v h36 ⟨r35, rfl, w⟩
    refine v_istore (l' := [.ref l0, .ref l1, .long r23, .null, .int r25, .int r27, .int r31, .int r35]) dX5_readItem_75 (Nat.le_of_ble_eq_true rfl) rfl ?_
    refine w_aload_n dX5_readItem_77 rfl ?_
    obtain ⟨e1, w⟩ := w
    refine w_callV (As := []) (st := []) dX5_readItem_78 mt_X5_expectEnd g_644 g_646 g_10 rfl e1 rfl rfl (Nat.le_of_ble_eq_true rfl) (Nat.le_refl _) ⟨Nat.le_refl _, Nat.le_refl _⟩ w ?_
    rintro v h38 ⟨rfl, w⟩
    refine w_aload_n dX5_readItem_81 rfl ?_
    obtain ⟨e1, w⟩ := w
    refine w_geti dX5_readItem_82 lk_RX5_9 e1 rfl ?_
    refine w_if_ne (tgt := 109) dX5_readItem_85 rfl (fun c => ?_) (fun c => ?_)
    · rw [if_neg c] at w
      exact w_return dX5_readItem_109 rfl ⟨Nat.le_refl _, Nat.le_refl _⟩ w
    · rw [if_pos c] at w
      refine w_iload dX5_readItem_88 rfl ?_
      refine w_if_le (tgt := 109) dX5_readItem_90 rfl (fun c => ?_) (fun c => ?_)
      · rw [if_pos c] at w
        exact w_return dX5_readItem_109 rfl ⟨Nat.le_refl _, Nat.le_refl _⟩ w
      · rw [if_neg c] at w
        refine w_aload_n dX5_readItem_93 rfl ?_
        refine w_lload_n dX5_readItem_94 rfl ?_
        refine w_iload dX5_readItem_95 rfl ?_
        refine w_iload dX5_readItem_97 rfl ?_
        refine w_i2f dX5_readItem_99 ?_
        refine w_iload dX5_readItem_100 rfl ?_
        refine w_i2f dX5_readItem_102 ?_
        obtain ⟨e2, w⟩ := w
        refine w_fdiv dX5_readItem_103 e2 ?_
        refine w_iload dX5_readItem_104 rfl ?_
        obtain ⟨e3, w⟩ := w
        refine w_callV (As := [.long r23, .int r25, .float (FP.fdiv (FP.i2f r27) (FP.i2f r31)), .int r35]) (st := []) dX5_readItem_106 mt_X4_addItem g_694 g_695 g_696 rfl e3 rfl rfl (Nat.le_of_ble_eq_true rfl) (Nat.le_refl _) ⟨Nat.le_refl _, Nat.le_refl _⟩ w ?_
        rintro v h40 ⟨rfl, w⟩
        exact w_return dX5_readItem_109 rfl ⟨Nat.le_refl _, Nat.le_refl _⟩ w
set_option maxRecDepth 20000 in
set_option maxHeartbeats 4000000 in
theorem x_X5_readShare {G : pm_G} {d : Nat} {post : pm_PT} {h : pm_H} {l0 : Nat} {l1 : Nat} (w :
    (h.1[l0]? = some (0, 5)) ∧
    if (gi h l0 3) = 0 then (
      cv G d m_X5_begin [.ref l0, .int 0] h fun h2 =>
      (h2.1[l0]? = some (0, 5)) ∧
      ∀ h3 : pm_H, h3 = si h2 l0 3 1 →
      ci G d m_X5_toldNumber [.ref l0, .int 0, .int 6] h3 fun r4 h5 =>
      (h5.1[l0]? = some (0, 5)) ∧
      cv G d m_X5_expectEnd [.ref l0] h5 fun h7 =>
      (h7.1[l0]? = some (0, 5)) ∧
      if (gi h7 l0 2) = 0 then (
        (h7.1[l1]? = some (0, 4)) ∧
        ∀ h8 : pm_H, h8 = si h7 l1 8 r4 →
        post none h8
      ) else (
        post none h7
      )
    ) else (
      cv G d m_X5_begin [.ref l0, .int 3] h fun h10 =>
      (h10.1[l0]? = some (0, 5)) ∧
      ∀ h11 : pm_H, h11 = si h10 l0 3 1 →
      ci G d m_X5_toldNumber [.ref l0, .int 0, .int 6] h11 fun r12 h13 =>
      (h13.1[l0]? = some (0, 5)) ∧
      cv G d m_X5_expectEnd [.ref l0] h13 fun h15 =>
      (h15.1[l0]? = some (0, 5)) ∧
      if (gi h15 l0 2) = 0 then (
        (h15.1[l1]? = some (0, 4)) ∧
        ∀ h16 : pm_H, h16 = si h15 l1 8 r12 →
        post none h16
      ) else (
        post none h15
      )
    )) :
    Wp G (m_X5_readShare, d + 1, 0, 0, post) (0, 0) 0 [.ref l0, .ref l1, .null] [] h := by
  refine w_aload_n dX5_readShare_0 rfl ?_
  refine w_aload_n dX5_readShare_1 rfl ?_
  obtain ⟨e1, w⟩ := w
  refine w_getz dX5_readShare_2 lk_RX5_15 e1 rfl ?_
  refine w_if_eq (tgt := 12) dX5_readShare_5 rfl (fun c => ?_) (fun c => ?_)
  · rw [if_pos c] at w
    refine w_iconst (v := 0) dX5_readShare_12 rfl ?_
    refine w_callV (As := [.int 0]) (st := []) dX5_readShare_13 mt_X5_begin g_615 g_617 g_5 rfl e1 rfl rfl (Nat.le_of_ble_eq_true rfl) (Nat.le_refl _) ⟨Nat.le_refl _, Nat.le_refl _⟩ w ?_
    rintro v h2 ⟨rfl, w⟩
    refine w_aload_n dX5_readShare_16 rfl ?_
    refine w_iconst (v := 1) dX5_readShare_17 rfl ?_
    obtain ⟨e1, w⟩ := w
    refine w_putz dX5_readShare_18 lk_RX5_15 e1 rfl (Or.inl rfl) (by decide) ?_
    have w := w _ rfl
    refine w_aload_n dX5_readShare_21 rfl ?_
    refine w_iconst (v := 0) dX5_readShare_22 rfl ?_
    refine w_bipush (v := 6) dX5_readShare_23 rfl ?_
    refine w_callV (As := [.int 0, .int 6]) (st := []) dX5_readShare_25 mt_X5_toldNumber g_677 g_679 g_14 rfl e1 rfl rfl (Nat.le_of_ble_eq_true rfl) (Nat.le_refl _) ⟨Nat.le_refl _, Nat.le_refl _⟩ w ?_
    rintro v h5 ⟨r4, rfl, w⟩
    refine v_istore_n (l' := [.ref l0, .ref l1, .int r4]) dX5_readShare_28 (Nat.le_of_ble_eq_true rfl) rfl ?_
    refine w_aload_n dX5_readShare_29 rfl ?_
    obtain ⟨e1, w⟩ := w
    refine w_callV (As := []) (st := []) dX5_readShare_30 mt_X5_expectEnd g_644 g_646 g_10 rfl e1 rfl rfl (Nat.le_of_ble_eq_true rfl) (Nat.le_refl _) ⟨Nat.le_refl _, Nat.le_refl _⟩ w ?_
    rintro v h7 ⟨rfl, w⟩
    refine w_aload_n dX5_readShare_33 rfl ?_
    obtain ⟨e1, w⟩ := w
    refine w_geti dX5_readShare_34 lk_RX5_9 e1 rfl ?_
    refine w_if_ne (tgt := 45) dX5_readShare_37 rfl (fun c => ?_) (fun c => ?_)
    · rw [if_neg c] at w
      exact w_return dX5_readShare_45 rfl ⟨Nat.le_refl _, Nat.le_refl _⟩ w
    · rw [if_pos c] at w
      refine w_aload_n dX5_readShare_40 rfl ?_
      refine w_iload_n dX5_readShare_41 rfl ?_
      obtain ⟨e2, w⟩ := w
      refine w_puti dX5_readShare_42 lk_RX5_147 e2 rfl (Or.inl rfl) ?_
      have w := w _ rfl
      exact w_return dX5_readShare_45 rfl ⟨Nat.le_refl _, Nat.le_refl _⟩ w
  · rw [if_neg c] at w
    refine w_iconst (v := 3) dX5_readShare_8 rfl ?_
    refine w_goto (tgt := 13) dX5_readShare_9 rfl ?_
    refine w_callV (As := [.int 3]) (st := []) dX5_readShare_13 mt_X5_begin g_615 g_617 g_5 rfl e1 rfl rfl (Nat.le_of_ble_eq_true rfl) (Nat.le_refl _) ⟨Nat.le_refl _, Nat.le_refl _⟩ w ?_
    rintro v h10 ⟨rfl, w⟩
    refine w_aload_n dX5_readShare_16 rfl ?_
    refine w_iconst (v := 1) dX5_readShare_17 rfl ?_
    obtain ⟨e1, w⟩ := w
    refine w_putz dX5_readShare_18 lk_RX5_15 e1 rfl (Or.inl rfl) (by decide) ?_
    have w := w _ rfl
    refine w_aload_n dX5_readShare_21 rfl ?_
    refine w_iconst (v := 0) dX5_readShare_22 rfl ?_
    refine w_bipush (v := 6) dX5_readShare_23 rfl ?_
    refine w_callV (As := [.int 0, .int 6]) (st := []) dX5_readShare_25 mt_X5_toldNumber g_677 g_679 g_14 rfl e1 rfl rfl (Nat.le_of_ble_eq_true rfl) (Nat.le_refl _) ⟨Nat.le_refl _, Nat.le_refl _⟩ w ?_
    rintro v h13 ⟨r12, rfl, w⟩
    refine v_istore_n (l' := [.ref l0, .ref l1, .int r12]) dX5_readShare_28 (Nat.le_of_ble_eq_true rfl) rfl ?_
    refine w_aload_n dX5_readShare_29 rfl ?_
    obtain ⟨e1, w⟩ := w
    refine w_callV (As := []) (st := []) dX5_readShare_30 mt_X5_expectEnd g_644 g_646 g_10 rfl e1 rfl rfl (Nat.le_of_ble_eq_true rfl) (Nat.le_refl _) ⟨Nat.le_refl _, Nat.le_refl _⟩ w ?_
    rintro v h15 ⟨rfl, w⟩
    refine w_aload_n dX5_readShare_33 rfl ?_
    obtain ⟨e1, w⟩ := w
    refine w_geti dX5_readShare_34 lk_RX5_9 e1 rfl ?_
    refine w_if_ne (tgt := 45) dX5_readShare_37 rfl (fun c => ?_) (fun c => ?_)
    · rw [if_neg c] at w
      exact w_return dX5_readShare_45 rfl ⟨Nat.le_refl _, Nat.le_refl _⟩ w
    · rw [if_pos c] at w
      refine w_aload_n dX5_readShare_40 rfl ?_
      refine w_iload_n dX5_readShare_41 rfl ?_
      obtain ⟨e2, w⟩ := w
      refine w_puti dX5_readShare_42 lk_RX5_147 e2 rfl (Or.inl rfl) ?_
      have w := w _ rfl
      exact w_return dX5_readShare_45 rfl ⟨Nat.le_refl _, Nat.le_refl _⟩ w
set_option maxRecDepth 20000 in
set_option maxHeartbeats 4000000 in
theorem x_X5_readGrows {G : pm_G} {d : Nat} {post : pm_PT} {h : pm_H} {l0 : Nat} {l1 : Nat} (w :
    (h.1[l0]? = some (0, 5)) ∧
    if (gi h l0 4) = 0 then (
      cv G d m_X5_begin [.ref l0, .int 0] h fun h2 =>
      (h2.1[l0]? = some (0, 5)) ∧
      ∀ h3 : pm_H, h3 = si h2 l0 4 1 →
      if (gi h3 l0 2) = 0 then (
        (h2.1[l1]? = some (0, 4)) ∧
        (h2.1[gp h3 l0 1]? = some (0, 2)) ∧
        ci G d m_X2_readLaw [.ref (gp h3 l0 1), .ref (gp h3 l1 7)] h3 fun r4 h5 =>
        (h5.1[l0]? = some (0, 5)) ∧
        cv G d m_X5_fail [.ref l0, .int r4] h5 fun h7 =>
        (h7.1[l0]? = some (0, 5)) ∧
        cv G d m_X5_expectEnd [.ref l0] h7 fun h9 =>
        post none h9
      ) else (
        cv G d m_X5_expectEnd [.ref l0] h3 fun h11 =>
        post none h11
      )
    ) else (
      cv G d m_X5_begin [.ref l0, .int 3] h fun h13 =>
      (h13.1[l0]? = some (0, 5)) ∧
      ∀ h14 : pm_H, h14 = si h13 l0 4 1 →
      if (gi h14 l0 2) = 0 then (
        (h13.1[l1]? = some (0, 4)) ∧
        (h13.1[gp h14 l0 1]? = some (0, 2)) ∧
        ci G d m_X2_readLaw [.ref (gp h14 l0 1), .ref (gp h14 l1 7)] h14 fun r15 h16 =>
        (h16.1[l0]? = some (0, 5)) ∧
        cv G d m_X5_fail [.ref l0, .int r15] h16 fun h18 =>
        (h18.1[l0]? = some (0, 5)) ∧
        cv G d m_X5_expectEnd [.ref l0] h18 fun h20 =>
        post none h20
      ) else (
        cv G d m_X5_expectEnd [.ref l0] h14 fun h22 =>
        post none h22
      )
    )) :
    Wp G (m_X5_readGrows, d + 1, 0, 0, post) (0, 0) 0 [.ref l0, .ref l1] [] h := by
  refine w_aload_n dX5_readGrows_0 rfl ?_
  refine w_aload_n dX5_readGrows_1 rfl ?_
  obtain ⟨e1, w⟩ := w
  refine w_getz dX5_readGrows_2 lk_RX5_19 e1 rfl ?_
  refine w_if_eq (tgt := 12) dX5_readGrows_5 rfl (fun c => ?_) (fun c => ?_)
  · rw [if_pos c] at w
    refine w_iconst (v := 0) dX5_readGrows_12 rfl ?_
    refine w_callV (As := [.int 0]) (st := []) dX5_readGrows_13 mt_X5_begin g_615 g_617 g_5 rfl e1 rfl rfl (Nat.le_of_ble_eq_true rfl) (Nat.le_refl _) ⟨Nat.le_refl _, Nat.le_refl _⟩ w ?_
    rintro v h2 ⟨rfl, w⟩
    refine w_aload_n dX5_readGrows_16 rfl ?_
    refine w_iconst (v := 1) dX5_readGrows_17 rfl ?_
    obtain ⟨e1, w⟩ := w
    refine w_putz dX5_readGrows_18 lk_RX5_19 e1 rfl (Or.inl rfl) (by decide) ?_
    have w := w _ rfl
    refine w_aload_n dX5_readGrows_21 rfl ?_
    refine w_geti dX5_readGrows_22 lk_RX5_9 e1 rfl ?_
    refine w_if_ne (tgt := 43) dX5_readGrows_25 rfl (fun c => ?_) (fun c => ?_)
    · rw [if_neg c] at w
      refine w_aload_n dX5_readGrows_43 rfl ?_
      refine w_callV (As := []) (st := []) dX5_readGrows_44 mt_X5_expectEnd g_644 g_646 g_10 rfl e1 rfl rfl (Nat.le_of_ble_eq_true rfl) (Nat.le_refl _) ⟨Nat.le_refl _, Nat.le_refl _⟩ w ?_
      rintro v h11 ⟨rfl, w⟩
      exact w_return dX5_readGrows_47 rfl ⟨Nat.le_refl _, Nat.le_refl _⟩ w
    · rw [if_pos c] at w
      refine w_aload_n dX5_readGrows_28 rfl ?_
      refine w_aload_n dX5_readGrows_29 rfl ?_
      refine w_getp dX5_readGrows_30 lk_RX5_31 e1 rfl ?_
      refine w_aload_n dX5_readGrows_33 rfl ?_
      obtain ⟨e2, w⟩ := w
      refine w_getp dX5_readGrows_34 lk_RX5_150 e2 rfl ?_
      obtain ⟨e3, w⟩ := w
      refine w_callV (As := [.ref (gp (si h2 l0 4 1) l1 7)]) (st := [.ref l0]) dX5_readGrows_37 mt_X2_readLaw g_715 g_716 g_717 rfl e3 rfl rfl (Nat.le_of_ble_eq_true rfl) (Nat.le_refl _) ⟨Nat.le_refl _, Nat.le_refl _⟩ w ?_
      rintro v h5 ⟨r4, rfl, w⟩
      obtain ⟨e1, w⟩ := w
      refine w_callV (As := [.int r4]) (st := []) dX5_readGrows_40 mt_X5_fail g_619 g_621 g_6 rfl e1 rfl rfl (Nat.le_of_ble_eq_true rfl) (Nat.le_refl _) ⟨Nat.le_refl _, Nat.le_refl _⟩ w ?_
      rintro v h7 ⟨rfl, w⟩
      refine w_aload_n dX5_readGrows_43 rfl ?_
      obtain ⟨e1, w⟩ := w
      refine w_callV (As := []) (st := []) dX5_readGrows_44 mt_X5_expectEnd g_644 g_646 g_10 rfl e1 rfl rfl (Nat.le_of_ble_eq_true rfl) (Nat.le_refl _) ⟨Nat.le_refl _, Nat.le_refl _⟩ w ?_
      rintro v h9 ⟨rfl, w⟩
      exact w_return dX5_readGrows_47 rfl ⟨Nat.le_refl _, Nat.le_refl _⟩ w
  · rw [if_neg c] at w
    refine w_iconst (v := 3) dX5_readGrows_8 rfl ?_
    refine w_goto (tgt := 13) dX5_readGrows_9 rfl ?_
    refine w_callV (As := [.int 3]) (st := []) dX5_readGrows_13 mt_X5_begin g_615 g_617 g_5 rfl e1 rfl rfl (Nat.le_of_ble_eq_true rfl) (Nat.le_refl _) ⟨Nat.le_refl _, Nat.le_refl _⟩ w ?_
    rintro v h13 ⟨rfl, w⟩
    refine w_aload_n dX5_readGrows_16 rfl ?_
    refine w_iconst (v := 1) dX5_readGrows_17 rfl ?_
    obtain ⟨e1, w⟩ := w
    refine w_putz dX5_readGrows_18 lk_RX5_19 e1 rfl (Or.inl rfl) (by decide) ?_
    have w := w _ rfl
    refine w_aload_n dX5_readGrows_21 rfl ?_
    refine w_geti dX5_readGrows_22 lk_RX5_9 e1 rfl ?_
    refine w_if_ne (tgt := 43) dX5_readGrows_25 rfl (fun c => ?_) (fun c => ?_)
    · rw [if_neg c] at w
      refine w_aload_n dX5_readGrows_43 rfl ?_
      refine w_callV (As := []) (st := []) dX5_readGrows_44 mt_X5_expectEnd g_644 g_646 g_10 rfl e1 rfl rfl (Nat.le_of_ble_eq_true rfl) (Nat.le_refl _) ⟨Nat.le_refl _, Nat.le_refl _⟩ w ?_
      rintro v h22 ⟨rfl, w⟩
      exact w_return dX5_readGrows_47 rfl ⟨Nat.le_refl _, Nat.le_refl _⟩ w
    · rw [if_pos c] at w
      refine w_aload_n dX5_readGrows_28 rfl ?_
      refine w_aload_n dX5_readGrows_29 rfl ?_
      refine w_getp dX5_readGrows_30 lk_RX5_31 e1 rfl ?_
      refine w_aload_n dX5_readGrows_33 rfl ?_
      obtain ⟨e2, w⟩ := w
      refine w_getp dX5_readGrows_34 lk_RX5_150 e2 rfl ?_
      obtain ⟨e3, w⟩ := w
      refine w_callV (As := [.ref (gp (si h13 l0 4 1) l1 7)]) (st := [.ref l0]) dX5_readGrows_37 mt_X2_readLaw g_715 g_716 g_717 rfl e3 rfl rfl (Nat.le_of_ble_eq_true rfl) (Nat.le_refl _) ⟨Nat.le_refl _, Nat.le_refl _⟩ w ?_
      rintro v h16 ⟨r15, rfl, w⟩
      obtain ⟨e1, w⟩ := w
      refine w_callV (As := [.int r15]) (st := []) dX5_readGrows_40 mt_X5_fail g_619 g_621 g_6 rfl e1 rfl rfl (Nat.le_of_ble_eq_true rfl) (Nat.le_refl _) ⟨Nat.le_refl _, Nat.le_refl _⟩ w ?_
      rintro v h18 ⟨rfl, w⟩
      refine w_aload_n dX5_readGrows_43 rfl ?_
      obtain ⟨e1, w⟩ := w
      refine w_callV (As := []) (st := []) dX5_readGrows_44 mt_X5_expectEnd g_644 g_646 g_10 rfl e1 rfl rfl (Nat.le_of_ble_eq_true rfl) (Nat.le_refl _) ⟨Nat.le_refl _, Nat.le_refl _⟩ w ?_
      rintro v h20 ⟨rfl, w⟩
      exact w_return dX5_readGrows_47 rfl ⟨Nat.le_refl _, Nat.le_refl _⟩ w
set_option maxRecDepth 20000 in
set_option maxHeartbeats 4000000 in
theorem x_X5_readWork {G : pm_G} {d : Nat} {post : pm_PT} {h : pm_H} {l0 : Nat} {l1 : Nat} {l2 : Nat} (w :
    (h.1[l0]? = some (0, 5)) ∧
    ∀ h1 : pm_H, h1 = si h l0 2 0 →
    (h.1[l2]? = some (0, 9)) ∧
    ∀ h2 : pm_H, h2 = si h1 l2 3 0 →
    (h.1[gp h2 l0 0]? = some (0, 7)) ∧
    cv G d m_X7_begin [.ref (gp h2 l0 0)] h2 fun h4 =>
    Wp G (m_X5_readWork, d + 1, 0, 0, post) (0, 0) 19 [.ref l0, .ref l1, .ref l2, .int 0] [] h4) :
    Wp G (m_X5_readWork, d + 1, 0, 0, post) (0, 0) 0 [.ref l0, .ref l1, .ref l2, .null] [] h := by
  refine w_aload_n dX5_readWork_0 rfl ?_
  refine w_iconst (v := 0) dX5_readWork_1 rfl ?_
  obtain ⟨e1, w⟩ := w
  refine w_puti dX5_readWork_2 lk_RX5_9 e1 rfl (Or.inl rfl) ?_
  have w := w _ rfl
  refine w_aload_n dX5_readWork_5 rfl ?_
  refine w_iconst (v := 0) dX5_readWork_6 rfl ?_
  obtain ⟨e2, w⟩ := w
  refine w_puti dX5_readWork_7 lk_RX5_158 e2 rfl (Or.inl rfl) ?_
  have w := w _ rfl
  refine w_aload_n dX5_readWork_10 rfl ?_
  refine w_getp dX5_readWork_11 lk_RX5_22 e1 rfl ?_
  obtain ⟨e3, w⟩ := w
  refine w_callV (As := []) (st := []) dX5_readWork_14 mt_X7_begin g_569 g_570 g_571 rfl e3 rfl rfl (Nat.le_of_ble_eq_true rfl) (Nat.le_refl _) ⟨Nat.le_refl _, Nat.le_refl _⟩ w ?_
  rintro v h4 ⟨rfl, w⟩
  refine w_iconst (v := 0) dX5_readWork_17 rfl ?_
  refine v_istore_n (l' := [.ref l0, .ref l1, .ref l2, .int 0]) dX5_readWork_18 (Nat.le_of_ble_eq_true rfl) rfl ?_
  exact w
set_option maxRecDepth 20000 in
set_option maxHeartbeats 4000000 in
theorem x_X5_readWork_19 {G : pm_G} {d : Nat} {post : pm_PT} {h : pm_H} {l0 : Nat} {l1 : Nat} {l2 : Nat} {l3 : Int32} (w :
    if 1000 < l3 then (
      (h.1[l0]? = some (0, 5)) ∧
      post (some (.int (gi h l0 2))) h
    ) else (
      (h.1[l0]? = some (0, 5)) ∧
      if (gi h l0 2) = 0 then (
        (h.1[gp h l0 0]? = some (0, 7)) ∧
        if (gi h (gp h l0 0) 3) = 0 then (
          post (some (.int (gi h l0 2))) h
        ) else (
          cv G d m_X5_readLine [.ref l0, .ref l1, .ref l2] h fun h2 =>
          Wp G (m_X5_readWork, d + 1, 0, 0, post) (0, 0) 19 [.ref l0, .ref l1, .ref l2, .int (l3 + 1)] [] h2
        )
      ) else (
        post (some (.int (gi h l0 2))) h
      )
    )) :
    Wp G (m_X5_readWork, d + 1, 0, 0, post) (0, 0) 19 [.ref l0, .ref l1, .ref l2, .int l3] [] h := by
  refine w_iload_n dX5_readWork_19 rfl ?_
  refine w_sipush (v := 1000) dX5_readWork_20 rfl ?_
  refine w_ic_gt (tgt := 55) dX5_readWork_23 rfl (fun c => ?_) (fun c => ?_)
  · rw [if_pos c] at w
    refine w_aload_n dX5_readWork_55 rfl ?_
    obtain ⟨e1, w⟩ := w
    refine w_geti dX5_readWork_56 lk_RX5_9 e1 rfl ?_
    exact w_ireturn dX5_readWork_59 rfl rfl ⟨Nat.le_refl _, Nat.le_refl _⟩ w
  · rw [if_neg c] at w
    refine w_aload_n dX5_readWork_26 rfl ?_
    obtain ⟨e1, w⟩ := w
    refine w_geti dX5_readWork_27 lk_RX5_9 e1 rfl ?_
    refine w_if_ne (tgt := 55) dX5_readWork_30 rfl (fun c => ?_) (fun c => ?_)
    · rw [if_neg c] at w
      refine w_aload_n dX5_readWork_55 rfl ?_
      refine w_geti dX5_readWork_56 lk_RX5_9 e1 rfl ?_
      exact w_ireturn dX5_readWork_59 rfl rfl ⟨Nat.le_refl _, Nat.le_refl _⟩ w
    · rw [if_pos c] at w
      refine w_aload_n dX5_readWork_33 rfl ?_
      refine w_getp dX5_readWork_34 lk_RX5_22 e1 rfl ?_
      obtain ⟨e2, w⟩ := w
      refine w_geti dX5_readWork_37 lk_RX5_45 e2 rfl ?_
      refine w_if_eq (tgt := 55) dX5_readWork_40 rfl (fun c => ?_) (fun c => ?_)
      · rw [if_pos c] at w
        refine w_aload_n dX5_readWork_55 rfl ?_
        refine w_geti dX5_readWork_56 lk_RX5_9 e1 rfl ?_
        exact w_ireturn dX5_readWork_59 rfl rfl ⟨Nat.le_refl _, Nat.le_refl _⟩ w
      · rw [if_neg c] at w
        refine w_aload_n dX5_readWork_43 rfl ?_
        refine w_aload_n dX5_readWork_44 rfl ?_
        refine w_aload_n dX5_readWork_45 rfl ?_
        refine w_callV (As := [.ref l1, .ref l2]) (st := []) dX5_readWork_46 mt_X5_readLine g_861 g_863 g_32 rfl e1 rfl rfl (Nat.le_of_ble_eq_true rfl) (Nat.le_refl _) ⟨Nat.le_refl _, Nat.le_refl _⟩ w ?_
        rintro v h2 ⟨rfl, w⟩
        refine v_iinc (l' := [.ref l0, .ref l1, .ref l2, .int (l3 + 1)]) (v := l3 + 1) dX5_readWork_49 rfl rfl (Nat.le_of_ble_eq_true rfl) rfl ?_
        refine w_goto (tgt := 19) dX5_readWork_52 rfl ?_
        exact w
set_option maxRecDepth 20000 in
set_option maxHeartbeats 4000000 in
theorem x_X5_readLine {G : pm_G} {d : Nat} {post : pm_PT} {h : pm_H} {l0 : Nat} {l1 : Nat} {l2 : Nat} (w :
    (h.1[l0]? = some (0, 5)) ∧
    (h.1[gp h l0 0]? = some (0, 7)) ∧
    ∃ i1 : Nat, i1 < 22 ∧ (gp h (gp h l0 0) 5) = 1000 + i1 ∧
    if i1 = 8 then (
      Wp G (m_X5_readLine, d + 1, 0, 0, post) (0, 0) 53 [.ref l0, .ref l1, .ref l2, .null, .null, .null, .null] [.int 0] h
    ) else (
      ∃ i2 : Nat, i2 < 22 ∧ (gp h (gp h l0 0) 5) = 1000 + i2 ∧
      if i2 = 9 then (
        Wp G (m_X5_readLine, d + 1, 0, 0, post) (0, 0) 53 [.ref l0, .ref l1, .ref l2, .null, .null, .null, .null] [.int 1] h
      ) else (
        ∃ i3 : Nat, i3 < 22 ∧ (gp h (gp h l0 0) 5) = 1000 + i3 ∧
        if i3 = 10 then (
          Wp G (m_X5_readLine, d + 1, 0, 0, post) (0, 0) 53 [.ref l0, .ref l1, .ref l2, .null, .null, .null, .null] [.int 2] h
        ) else (
          ∃ i4 : Nat, i4 < 22 ∧ (gp h (gp h l0 0) 5) = 1000 + i4 ∧
          if i4 = 11 then (
            Wp G (m_X5_readLine, d + 1, 0, 0, post) (0, 0) 53 [.ref l0, .ref l1, .ref l2, .null, .null, .null, .null] [.int 3] h
          ) else (
            Wp G (m_X5_readLine, d + 1, 0, 0, post) (0, 0) 53 [.ref l0, .ref l1, .ref l2, .null, .null, .null, .null] [.int (-1)] h
          )
        )
      )
    )) :
    Wp G (m_X5_readLine, d + 1, 0, 0, post) (0, 0) 0 [.ref l0, .ref l1, .ref l2, .null, .null, .null, .null] [] h := by
  refine w_aload_n dX5_readLine_0 rfl ?_
  obtain ⟨e1, w⟩ := w
  refine w_getp dX5_readLine_1 lk_RX5_22 e1 rfl ?_
  obtain ⟨e2, w⟩ := w
  refine w_getp dX5_readLine_4 lk_RX5_48 e2 rfl ?_
  refine v_astore_n (l' := [.ref l0, .ref l1, .ref l2, .ref (gp h (gp h l0 0) 5), .null, .null, .null]) dX5_readLine_7 (Nat.le_of_ble_eq_true rfl) rfl ?_
  refine w_aload_n dX5_readLine_8 rfl ?_
  refine w_getw (i := 8) dX5_readLine_9 rfl g_865 ?_
  obtain ⟨i1, li1, qi1, w⟩ := w
  refine v_acmp_ne (tgt := 19) (i := i1) (j := 8) dX5_readLine_12 rfl qi1 rfl li1 (by decide) (fun c => ?_) (fun c => ?_)
  · rw [if_neg c] at w
    refine w_aload_n dX5_readLine_19 rfl ?_
    refine w_getw (i := 9) dX5_readLine_20 rfl g_867 ?_
    obtain ⟨i2, li2, qi2, w⟩ := w
    refine v_acmp_ne (tgt := 30) (i := i2) (j := 9) dX5_readLine_23 rfl qi2 rfl li2 (by decide) (fun c => ?_) (fun c => ?_)
    · rw [if_neg c] at w
      refine w_aload_n dX5_readLine_30 rfl ?_
      refine w_getw (i := 10) dX5_readLine_31 rfl g_869 ?_
      obtain ⟨i3, li3, qi3, w⟩ := w
      refine v_acmp_ne (tgt := 41) (i := i3) (j := 10) dX5_readLine_34 rfl qi3 rfl li3 (by decide) (fun c => ?_) (fun c => ?_)
      · rw [if_neg c] at w
        refine w_aload_n dX5_readLine_41 rfl ?_
        refine w_getw (i := 11) dX5_readLine_42 rfl g_871 ?_
        obtain ⟨i4, li4, qi4, w⟩ := w
        refine v_acmp_ne (tgt := 52) (i := i4) (j := 11) dX5_readLine_45 rfl qi4 rfl li4 (by decide) (fun c => ?_) (fun c => ?_)
        · rw [if_neg c] at w
          refine w_iconst (v := (-1)) dX5_readLine_52 rfl ?_
          exact w_drop (l' := [.ref l0, .ref l1, .ref l2, .null, .null, .null, .null]) ⟨Or.inr rfl, Or.inr rfl, Or.inr rfl, Or.inl rfl, Or.inl rfl, Or.inl rfl, Or.inl rfl, trivial⟩ w
        · rw [if_pos c] at w
          refine w_iconst (v := 3) dX5_readLine_48 rfl ?_
          refine w_goto (tgt := 53) dX5_readLine_49 rfl ?_
          exact w_drop (l' := [.ref l0, .ref l1, .ref l2, .null, .null, .null, .null]) ⟨Or.inr rfl, Or.inr rfl, Or.inr rfl, Or.inl rfl, Or.inl rfl, Or.inl rfl, Or.inl rfl, trivial⟩ w
      · rw [if_pos c] at w
        refine w_iconst (v := 2) dX5_readLine_37 rfl ?_
        refine w_goto (tgt := 53) dX5_readLine_38 rfl ?_
        exact w_drop (l' := [.ref l0, .ref l1, .ref l2, .null, .null, .null, .null]) ⟨Or.inr rfl, Or.inr rfl, Or.inr rfl, Or.inl rfl, Or.inl rfl, Or.inl rfl, Or.inl rfl, trivial⟩ w
    · rw [if_pos c] at w
      refine w_iconst (v := 1) dX5_readLine_26 rfl ?_
      refine w_goto (tgt := 53) dX5_readLine_27 rfl ?_
      exact w_drop (l' := [.ref l0, .ref l1, .ref l2, .null, .null, .null, .null]) ⟨Or.inr rfl, Or.inr rfl, Or.inr rfl, Or.inl rfl, Or.inl rfl, Or.inl rfl, Or.inl rfl, trivial⟩ w
  · rw [if_pos c] at w
    refine w_iconst (v := 0) dX5_readLine_15 rfl ?_
    refine w_goto (tgt := 53) dX5_readLine_16 rfl ?_
    exact w_drop (l' := [.ref l0, .ref l1, .ref l2, .null, .null, .null, .null]) ⟨Or.inr rfl, Or.inr rfl, Or.inr rfl, Or.inl rfl, Or.inl rfl, Or.inl rfl, Or.inl rfl, trivial⟩ w
set_option maxRecDepth 20000 in
set_option maxHeartbeats 4000000 in
theorem x_X5_readLine_53 {G : pm_G} {d : Nat} {post : pm_PT} {h : pm_H} {l0 : Nat} {l1 : Nat} {l2 : Nat} {s0 : Int32} (w :
    if s0 = (-1) then (
      Wp G (m_X5_readLine, d + 1, 0, 0, post) (0, 0) 80 [.ref l0, .ref l1, .ref l2, .null, .int s0, .null, .null] [.int 1, .ref l0] h
    ) else (
      (h.1[l2]? = some (0, 9)) ∧
      if (gi h l2 3) < 30 then (
        Wp G (m_X5_readLine, d + 1, 0, 0, post) (0, 0) 80 [.ref l0, .ref l1, .ref l2, .null, .int s0, .null, .null] [.int 0, .ref l0] h
      ) else (
        Wp G (m_X5_readLine, d + 1, 0, 0, post) (0, 0) 80 [.ref l0, .ref l1, .ref l2, .null, .int s0, .null, .null] [.int 5, .ref l0] h
      )
    )) :
    Wp G (m_X5_readLine, d + 1, 0, 0, post) (0, 0) 53 [.ref l0, .ref l1, .ref l2, .null, .null, .null, .null] [.int s0] h := by
  refine v_istore (l' := [.ref l0, .ref l1, .ref l2, .null, .int s0, .null, .null]) dX5_readLine_53 (Nat.le_of_ble_eq_true rfl) rfl ?_
  refine w_aload_n dX5_readLine_55 rfl ?_
  refine w_iload dX5_readLine_56 rfl ?_
  refine w_iconst (v := (-1)) dX5_readLine_58 rfl ?_
  refine w_ic_ne (tgt := 66) dX5_readLine_59 rfl (fun c => ?_) (fun c => ?_)
  · rw [if_neg c] at w
    refine w_aload_n dX5_readLine_66 rfl ?_
    obtain ⟨e1, w⟩ := w
    refine w_geti dX5_readLine_67 lk_RX5_158 e1 rfl ?_
    refine w_bipush (v := 30) dX5_readLine_70 rfl ?_
    refine w_ic_lt (tgt := 79) dX5_readLine_72 rfl (fun c => ?_) (fun c => ?_)
    · rw [if_pos c] at w
      refine w_iconst (v := 0) dX5_readLine_79 rfl ?_
      exact w
    · rw [if_neg c] at w
      refine w_iconst (v := 5) dX5_readLine_75 rfl ?_
      refine w_goto (tgt := 80) dX5_readLine_76 rfl ?_
      exact w
  · rw [if_pos c] at w
    refine w_iconst (v := 1) dX5_readLine_62 rfl ?_
    refine w_goto (tgt := 80) dX5_readLine_63 rfl ?_
    exact w
set_option maxRecDepth 20000 in
set_option maxHeartbeats 4000000 in
theorem x_X5_readLine_80 {G : pm_G} {d : Nat} {post : pm_PT} {h : pm_H} {l0 : Nat} {l1 : Nat} {l2 : Nat} {l4 : Int32} {s0 : Nat} {s1 : Int32} (w :
    (h.1[s0]? = some (0, 5)) ∧
    cv G d m_X5_begin [.ref s0, .int s1] h fun h2 =>
    if l4 = 0 then (
      (h2.1[l1]? = some (0, 4)) ∧
      Wp G (m_X5_readLine, d + 1, 0, 0, post) (0, 0) 100 [.ref l0, .ref l1, .ref l2, .null, .int l4, .null, .null] [.ref (gp h2 l1 2), .ref l0] h2
    ) else (
      (h2.1[l1]? = some (0, 4)) ∧
      Wp G (m_X5_readLine, d + 1, 0, 0, post) (0, 0) 100 [.ref l0, .ref l1, .ref l2, .null, .int l4, .null, .null] [.ref (gp h2 l1 0), .ref l0] h2
    )) :
    Wp G (m_X5_readLine, d + 1, 0, 0, post) (0, 0) 80 [.ref l0, .ref l1, .ref l2, .null, .int l4, .null, .null] [.int s1, .ref s0] h := by
  obtain ⟨e1, w⟩ := w
  refine w_callV (As := [.int s1]) (st := []) dX5_readLine_80 mt_X5_begin g_615 g_617 g_5 rfl e1 rfl rfl (Nat.le_of_ble_eq_true rfl) (Nat.le_refl _) ⟨Nat.le_refl _, Nat.le_refl _⟩ w ?_
  rintro v h2 ⟨rfl, w⟩
  refine w_aload_n dX5_readLine_83 rfl ?_
  refine w_iload dX5_readLine_84 rfl ?_
  refine w_if_ne (tgt := 96) dX5_readLine_86 rfl (fun c => ?_) (fun c => ?_)
  · rw [if_neg c] at w
    refine w_aload_n dX5_readLine_96 rfl ?_
    obtain ⟨e1, w⟩ := w
    refine w_getp dX5_readLine_97 lk_RX5_89 e1 rfl ?_
    exact w
  · rw [if_pos c] at w
    refine w_aload_n dX5_readLine_89 rfl ?_
    obtain ⟨e1, w⟩ := w
    refine w_getp dX5_readLine_90 lk_RX5_122 e1 rfl ?_
    refine w_goto (tgt := 100) dX5_readLine_93 rfl ?_
    exact w
set_option maxRecDepth 20000 in
set_option maxHeartbeats 4000000 in
theorem x_X5_readLine_100 {G : pm_G} {d : Nat} {post : pm_PT} {h : pm_H} {l0 : Nat} {l1 : Nat} {l2 : Nat} {l4 : Int32} {s0 : Nat} {s1 : Nat} (w :
    (h.1[s0]? = some (0, 5)) ∧
    ci G d m_X5_oldName [.ref s0, .ref s1, .int (-1)] h fun r1 h2 =>
    if l4 = 1 then (
      Wp G (m_X5_readLine, d + 1, 0, 0, post) (0, 0) 150 [.ref l0, .null, .ref l2, .null, .int l4, .int r1, .int (-1)] [] h2
    ) else (
      if l4 = 3 then (
        (h2.1[l1]? = some (0, 4)) ∧
        Wp G (m_X5_readLine, d + 1, 0, 0, post) (0, 0) 133 [.ref l0, .null, .ref l2, .null, .int l4, .int r1, .null] [.ref (gp h2 l1 1), .ref l0] h2
      ) else (
        (h2.1[l1]? = some (0, 4)) ∧
        Wp G (m_X5_readLine, d + 1, 0, 0, post) (0, 0) 133 [.ref l0, .null, .ref l2, .null, .int l4, .int r1, .null] [.ref (gp h2 l1 0), .ref l0] h2
      )
    )) :
    Wp G (m_X5_readLine, d + 1, 0, 0, post) (0, 0) 100 [.ref l0, .ref l1, .ref l2, .null, .int l4, .null, .null] [.ref s1, .ref s0] h := by
  refine w_iconst (v := (-1)) dX5_readLine_100 rfl ?_
  obtain ⟨e1, w⟩ := w
  refine w_callV (As := [.ref s1, .int (-1)]) (st := []) dX5_readLine_101 mt_X5_oldName g_689 g_691 g_16 rfl e1 rfl rfl (Nat.le_of_ble_eq_true rfl) (Nat.le_refl _) ⟨Nat.le_refl _, Nat.le_refl _⟩ w ?_
  rintro v h2 ⟨r1, rfl, w⟩
  refine v_istore (l' := [.ref l0, .ref l1, .ref l2, .null, .int l4, .int r1, .null]) dX5_readLine_104 (Nat.le_of_ble_eq_true rfl) rfl ?_
  refine w_iconst (v := (-1)) dX5_readLine_106 rfl ?_
  refine v_istore (l' := [.ref l0, .ref l1, .ref l2, .null, .int l4, .int r1, .int (-1)]) dX5_readLine_107 (Nat.le_of_ble_eq_true rfl) rfl ?_
  refine w_iload dX5_readLine_109 rfl ?_
  refine w_iconst (v := 1) dX5_readLine_111 rfl ?_
  refine w_ic_eq (tgt := 150) dX5_readLine_112 rfl (fun c => ?_) (fun c => ?_)
  · rw [if_pos c] at w
    exact w_drop (l' := [.ref l0, .null, .ref l2, .null, .int l4, .int r1, .int (-1)]) ⟨Or.inr rfl, Or.inl rfl, Or.inr rfl, Or.inl rfl, Or.inr rfl, Or.inr rfl, Or.inr rfl, trivial⟩ w
  · rw [if_neg c] at w
    refine w_aload_n dX5_readLine_115 rfl ?_
    refine w_iload dX5_readLine_116 rfl ?_
    refine w_iconst (v := 3) dX5_readLine_118 rfl ?_
    refine w_ic_ne (tgt := 129) dX5_readLine_119 rfl (fun c => ?_) (fun c => ?_)
    · rw [if_neg c] at w
      refine w_aload_n dX5_readLine_129 rfl ?_
      obtain ⟨e1, w⟩ := w
      refine w_getp dX5_readLine_130 lk_RX5_89 e1 rfl ?_
      exact w_drop (l' := [.ref l0, .null, .ref l2, .null, .int l4, .int r1, .null]) ⟨Or.inr rfl, Or.inl rfl, Or.inr rfl, Or.inl rfl, Or.inr rfl, Or.inr rfl, Or.inl rfl, trivial⟩ w
    · rw [if_pos c] at w
      refine w_aload_n dX5_readLine_122 rfl ?_
      obtain ⟨e1, w⟩ := w
      refine w_getp dX5_readLine_123 lk_RX5_111 e1 rfl ?_
      refine w_goto (tgt := 133) dX5_readLine_126 rfl ?_
      exact w_drop (l' := [.ref l0, .null, .ref l2, .null, .int l4, .int r1, .null]) ⟨Or.inr rfl, Or.inl rfl, Or.inr rfl, Or.inl rfl, Or.inr rfl, Or.inr rfl, Or.inl rfl, trivial⟩ w
set_option maxRecDepth 20000 in
set_option maxHeartbeats 4000000 in
theorem x_X5_readLine_133 {G : pm_G} {d : Nat} {post : pm_PT} {h : pm_H} {l0 : Nat} {l2 : Nat} {l4 : Int32} {l5 : Int32} {s0 : Nat} {s1 : Nat} (w :
    if l4 = 2 then (
      (h.1[s0]? = some (0, 5)) ∧
      ci G d m_X5_oldName [.ref s0, .ref s1, .int l5] h fun r1 h2 =>
      Wp G (m_X5_readLine, d + 1, 0, 0, post) (0, 0) 150 [.ref l0, .null, .ref l2, .null, .int l4, .int l5, .int r1] [] h2
    ) else (
      (h.1[s0]? = some (0, 5)) ∧
      ci G d m_X5_oldName [.ref s0, .ref s1, .int (-1)] h fun r3 h4 =>
      Wp G (m_X5_readLine, d + 1, 0, 0, post) (0, 0) 150 [.ref l0, .null, .ref l2, .null, .int l4, .int l5, .int r3] [] h4
    )) :
    Wp G (m_X5_readLine, d + 1, 0, 0, post) (0, 0) 133 [.ref l0, .null, .ref l2, .null, .int l4, .int l5, .null] [.ref s1, .ref s0] h := by
  refine w_iload dX5_readLine_133 rfl ?_
  refine w_iconst (v := 2) dX5_readLine_135 rfl ?_
  refine w_ic_ne (tgt := 144) dX5_readLine_136 rfl (fun c => ?_) (fun c => ?_)
  · rw [if_neg c] at w
    refine w_iconst (v := (-1)) dX5_readLine_144 rfl ?_
    obtain ⟨e1, w⟩ := w
    refine w_callV (As := [.ref s1, .int (-1)]) (st := []) dX5_readLine_145 mt_X5_oldName g_689 g_691 g_16 rfl e1 rfl rfl (Nat.le_of_ble_eq_true rfl) (Nat.le_refl _) ⟨Nat.le_refl _, Nat.le_refl _⟩ w ?_
    rintro v h4 ⟨r3, rfl, w⟩
    refine v_istore (l' := [.ref l0, .null, .ref l2, .null, .int l4, .int l5, .int r3]) dX5_readLine_148 (Nat.le_of_ble_eq_true rfl) rfl ?_
    exact w
  · rw [if_pos c] at w
    refine w_iload dX5_readLine_139 rfl ?_
    refine w_goto (tgt := 145) dX5_readLine_141 rfl ?_
    obtain ⟨e1, w⟩ := w
    refine w_callV (As := [.ref s1, .int l5]) (st := []) dX5_readLine_145 mt_X5_oldName g_689 g_691 g_16 rfl e1 rfl rfl (Nat.le_of_ble_eq_true rfl) (Nat.le_refl _) ⟨Nat.le_refl _, Nat.le_refl _⟩ w ?_
    rintro v h2 ⟨r1, rfl, w⟩
    refine v_istore (l' := [.ref l0, .null, .ref l2, .null, .int l4, .int l5, .int r1]) dX5_readLine_148 (Nat.le_of_ble_eq_true rfl) rfl ?_
    exact w
set_option maxRecDepth 20000 in
set_option maxHeartbeats 4000000 in
theorem x_X5_readLine_150 {G : pm_G} {d : Nat} {post : pm_PT} {h : pm_H} {l0 : Nat} {l2 : Nat} {l4 : Int32} {l5 : Int32} {l6 : Int32} (w :
    (h.1[l0]? = some (0, 5)) ∧
    cv G d m_X5_expectEnd [.ref l0] h fun h2 =>
    (h2.1[l0]? = some (0, 5)) ∧
    if (gi h2 l0 2) = 0 then (
      (h2.1[l2]? = some (0, 9)) ∧
      cv G d m_X10_add [.ref l2, .int l4, .int l5, .int l6] h2 fun h4 =>
      post none h4
    ) else (
      post none h2
    )) :
    Wp G (m_X5_readLine, d + 1, 0, 0, post) (0, 0) 150 [.ref l0, .null, .ref l2, .null, .int l4, .int l5, .int l6] [] h := by
  refine w_aload_n dX5_readLine_150 rfl ?_
  obtain ⟨e1, w⟩ := w
  refine w_callV (As := []) (st := []) dX5_readLine_151 mt_X5_expectEnd g_644 g_646 g_10 rfl e1 rfl rfl (Nat.le_of_ble_eq_true rfl) (Nat.le_refl _) ⟨Nat.le_refl _, Nat.le_refl _⟩ w ?_
  rintro v h2 ⟨rfl, w⟩
  refine w_aload_n dX5_readLine_154 rfl ?_
  obtain ⟨e1, w⟩ := w
  refine w_geti dX5_readLine_155 lk_RX5_9 e1 rfl ?_
  refine w_if_ne (tgt := 171) dX5_readLine_158 rfl (fun c => ?_) (fun c => ?_)
  · rw [if_neg c] at w
    exact w_return dX5_readLine_171 rfl ⟨Nat.le_refl _, Nat.le_refl _⟩ w
  · rw [if_pos c] at w
    refine w_aload_n dX5_readLine_161 rfl ?_
    refine w_iload dX5_readLine_162 rfl ?_
    refine w_iload dX5_readLine_164 rfl ?_
    refine w_iload dX5_readLine_166 rfl ?_
    obtain ⟨e2, w⟩ := w
    refine w_callV (As := [.int l4, .int l5, .int l6]) (st := []) dX5_readLine_168 mt_X10_add g_873 g_874 g_875 rfl e2 rfl rfl (Nat.le_of_ble_eq_true rfl) (Nat.le_refl _) ⟨Nat.le_refl _, Nat.le_refl _⟩ w ?_
    rintro v h4 ⟨rfl, w⟩
    exact w_return dX5_readLine_171 rfl ⟨Nat.le_refl _, Nat.le_refl _⟩ w
set_option maxRecDepth 20000 in
set_option maxHeartbeats 4000000 in
theorem x_X5_fail {G : pm_G} {d : Nat} {post : pm_PT} {h : pm_H} {l0 : Nat} {l1 : Int32} (w :
    (h.1[l0]? = some (0, 5)) ∧
    if (gi h l0 2) = 0 then (
      if l1 = 0 then (
        post none h
      ) else (
        (h.1[gp h l0 0]? = some (0, 7)) ∧
        ∀ h1 : pm_H, h1 = si h l0 2 (l1 + (16 * (gi h (gp h l0 0) 4))) →
        post none h1
      )
    ) else (
      post none h
    )) :
    Wp G (m_X5_fail, d + 1, 0, 0, post) (0, 0) 0 [.ref l0, .int l1] [] h := by
  refine w_aload_n dX5_fail_0 rfl ?_
  obtain ⟨e1, w⟩ := w
  refine w_geti dX5_fail_1 lk_RX5_9 e1 rfl ?_
  refine w_if_ne (tgt := 27) dX5_fail_4 rfl (fun c => ?_) (fun c => ?_)
  · rw [if_neg c] at w
    exact w_return dX5_fail_27 rfl ⟨Nat.le_refl _, Nat.le_refl _⟩ w
  · rw [if_pos c] at w
    refine w_iload_n dX5_fail_7 rfl ?_
    refine w_if_eq (tgt := 27) dX5_fail_8 rfl (fun c => ?_) (fun c => ?_)
    · rw [if_pos c] at w
      exact w_return dX5_fail_27 rfl ⟨Nat.le_refl _, Nat.le_refl _⟩ w
    · rw [if_neg c] at w
      refine w_aload_n dX5_fail_11 rfl ?_
      refine w_iload_n dX5_fail_12 rfl ?_
      refine w_bipush (v := 16) dX5_fail_13 rfl ?_
      refine w_aload_n dX5_fail_15 rfl ?_
      refine w_getp dX5_fail_16 lk_RX5_22 e1 rfl ?_
      obtain ⟨e2, w⟩ := w
      refine w_geti dX5_fail_19 lk_RX5_180 e2 rfl ?_
      refine w_imul dX5_fail_22 ?_
      refine w_iadd dX5_fail_23 ?_
      refine w_puti dX5_fail_24 lk_RX5_9 e1 rfl (Or.inl rfl) ?_
      have w := w _ rfl
      exact w_return dX5_fail_27 rfl ⟨Nat.le_refl _, Nat.le_refl _⟩ w
set_option maxRecDepth 20000 in
set_option maxHeartbeats 4000000 in
theorem x_X5_pass {G : pm_G} {d : Nat} {post : pm_PT} {h : pm_H} {l0 : Nat} (w :
    (h.1[l0]? = some (0, 5)) ∧
    if (gi h l0 2) = 0 then (
      (h.1[gp h l0 0]? = some (0, 7)) ∧
      cv G d m_X7_next [.ref (gp h l0 0)] h fun h2 =>
      post none h2
    ) else (
      post none h
    )) :
    Wp G (m_X5_pass, d + 1, 0, 0, post) (0, 0) 0 [.ref l0] [] h := by
  refine w_aload_n dX5_pass_0 rfl ?_
  obtain ⟨e1, w⟩ := w
  refine w_geti dX5_pass_1 lk_RX5_9 e1 rfl ?_
  refine w_if_ne (tgt := 14) dX5_pass_4 rfl (fun c => ?_) (fun c => ?_)
  · rw [if_neg c] at w
    exact w_return dX5_pass_14 rfl ⟨Nat.le_refl _, Nat.le_refl _⟩ w
  · rw [if_pos c] at w
    refine w_aload_n dX5_pass_7 rfl ?_
    refine w_getp dX5_pass_8 lk_RX5_22 e1 rfl ?_
    obtain ⟨e2, w⟩ := w
    refine w_callV (As := []) (st := []) dX5_pass_11 mt_X7_next g_627 g_574 g_575 rfl e2 rfl rfl (Nat.le_of_ble_eq_true rfl) (Nat.le_refl _) ⟨Nat.le_refl _, Nat.le_refl _⟩ w ?_
    rintro v h2 ⟨rfl, w⟩
    exact w_return dX5_pass_14 rfl ⟨Nat.le_refl _, Nat.le_refl _⟩ w
set_option maxRecDepth 20000 in
set_option maxHeartbeats 4000000 in
theorem x_X5_begin {G : pm_G} {d : Nat} {post : pm_PT} {h : pm_H} {l0 : Nat} {l1 : Int32} (w :
    (h.1[l0]? = some (0, 5)) ∧
    cv G d m_X5_fail [.ref l0, .int l1] h fun h2 =>
    (h2.1[l0]? = some (0, 5)) ∧
    cv G d m_X5_pass [.ref l0] h2 fun h4 =>
    post none h4) :
    Wp G (m_X5_begin, d + 1, 0, 0, post) (0, 0) 0 [.ref l0, .int l1] [] h := by
  refine w_aload_n dX5_begin_0 rfl ?_
  refine w_iload_n dX5_begin_1 rfl ?_
  obtain ⟨e1, w⟩ := w
  refine w_callV (As := [.int l1]) (st := []) dX5_begin_2 mt_X5_fail g_619 g_621 g_6 rfl e1 rfl rfl (Nat.le_of_ble_eq_true rfl) (Nat.le_refl _) ⟨Nat.le_refl _, Nat.le_refl _⟩ w ?_
  rintro v h2 ⟨rfl, w⟩
  refine w_aload_n dX5_begin_5 rfl ?_
  obtain ⟨e1, w⟩ := w
  refine w_callV (As := []) (st := []) dX5_begin_6 mt_X5_pass g_623 g_625 g_7 rfl e1 rfl rfl (Nat.le_of_ble_eq_true rfl) (Nat.le_refl _) ⟨Nat.le_refl _, Nat.le_refl _⟩ w ?_
  rintro v h4 ⟨rfl, w⟩
  exact w_return dX5_begin_9 rfl ⟨Nat.le_refl _, Nat.le_refl _⟩ w
set_option maxRecDepth 20000 in
set_option maxHeartbeats 4000000 in
theorem x_X5_expect {G : pm_G} {d : Nat} {post : pm_PT} {h : pm_H} {l0 : Nat} {l1 : Nat} (w :
    (h.1[l0]? = some (0, 5)) ∧
    (h.1[gp h l0 0]? = some (0, 7)) ∧
    ∃ i1 : Nat, i1 < 22 ∧ (gp h (gp h l0 0) 5) = 1000 + i1 ∧
    ∃ i2 : Nat, i2 < 22 ∧ l1 = 1000 + i2 ∧
    if i1 = i2 then (
      cv G d m_X5_fail [.ref l0, .int 0] h fun h4 =>
      (h4.1[l0]? = some (0, 5)) ∧
      cv G d m_X5_pass [.ref l0] h4 fun h6 =>
      post none h6
    ) else (
      cv G d m_X5_fail [.ref l0, .int 1] h fun h8 =>
      (h8.1[l0]? = some (0, 5)) ∧
      cv G d m_X5_pass [.ref l0] h8 fun h10 =>
      post none h10
    )) :
    Wp G (m_X5_expect, d + 1, 0, 0, post) (0, 0) 0 [.ref l0, .ref l1] [] h := by
  refine w_aload_n dX5_expect_0 rfl ?_
  refine w_aload_n dX5_expect_1 rfl ?_
  obtain ⟨e1, w⟩ := w
  refine w_getp dX5_expect_2 lk_RX5_22 e1 rfl ?_
  obtain ⟨e2, w⟩ := w
  refine w_getp dX5_expect_5 lk_RX5_48 e2 rfl ?_
  refine w_aload_n dX5_expect_8 rfl ?_
  obtain ⟨i1, li1, qi1, w⟩ := w
  obtain ⟨i2, li2, qi2, w⟩ := w
  refine v_acmp_ne (tgt := 16) (i := i1) (j := i2) dX5_expect_9 rfl qi1 qi2 li1 li2 (fun c => ?_) (fun c => ?_)
  · rw [if_neg c] at w
    refine w_iconst (v := 1) dX5_expect_16 rfl ?_
    refine w_callV (As := [.int 1]) (st := []) dX5_expect_17 mt_X5_fail g_619 g_621 g_6 rfl e1 rfl rfl (Nat.le_of_ble_eq_true rfl) (Nat.le_refl _) ⟨Nat.le_refl _, Nat.le_refl _⟩ w ?_
    rintro v h8 ⟨rfl, w⟩
    refine w_aload_n dX5_expect_20 rfl ?_
    obtain ⟨e1, w⟩ := w
    refine w_callV (As := []) (st := []) dX5_expect_21 mt_X5_pass g_623 g_625 g_7 rfl e1 rfl rfl (Nat.le_of_ble_eq_true rfl) (Nat.le_refl _) ⟨Nat.le_refl _, Nat.le_refl _⟩ w ?_
    rintro v h10 ⟨rfl, w⟩
    exact w_return dX5_expect_24 rfl ⟨Nat.le_refl _, Nat.le_refl _⟩ w
  · rw [if_pos c] at w
    refine w_iconst (v := 0) dX5_expect_12 rfl ?_
    refine w_goto (tgt := 17) dX5_expect_13 rfl ?_
    refine w_callV (As := [.int 0]) (st := []) dX5_expect_17 mt_X5_fail g_619 g_621 g_6 rfl e1 rfl rfl (Nat.le_of_ble_eq_true rfl) (Nat.le_refl _) ⟨Nat.le_refl _, Nat.le_refl _⟩ w ?_
    rintro v h4 ⟨rfl, w⟩
    refine w_aload_n dX5_expect_20 rfl ?_
    obtain ⟨e1, w⟩ := w
    refine w_callV (As := []) (st := []) dX5_expect_21 mt_X5_pass g_623 g_625 g_7 rfl e1 rfl rfl (Nat.le_of_ble_eq_true rfl) (Nat.le_refl _) ⟨Nat.le_refl _, Nat.le_refl _⟩ w ?_
    rintro v h6 ⟨rfl, w⟩
    exact w_return dX5_expect_24 rfl ⟨Nat.le_refl _, Nat.le_refl _⟩ w
set_option maxRecDepth 20000 in
set_option maxHeartbeats 4000000 in
theorem x_X5_expectEnd {G : pm_G} {d : Nat} {post : pm_PT} {h : pm_H} {l0 : Nat} (w :
    (h.1[l0]? = some (0, 5)) ∧
    (h.1[gp h l0 0]? = some (0, 7)) ∧
    if (gi h (gp h l0 0) 8) = 59 then (
      cv G d m_X5_fail [.ref l0, .int 0] h fun h2 =>
      (h2.1[l0]? = some (0, 5)) ∧
      cv G d m_X5_pass [.ref l0] h2 fun h4 =>
      post none h4
    ) else (
      cv G d m_X5_fail [.ref l0, .int 1] h fun h6 =>
      (h6.1[l0]? = some (0, 5)) ∧
      cv G d m_X5_pass [.ref l0] h6 fun h8 =>
      post none h8
    )) :
    Wp G (m_X5_expectEnd, d + 1, 0, 0, post) (0, 0) 0 [.ref l0] [] h := by
  refine w_aload_n dX5_expectEnd_0 rfl ?_
  refine w_aload_n dX5_expectEnd_1 rfl ?_
  obtain ⟨e1, w⟩ := w
  refine w_getp dX5_expectEnd_2 lk_RX5_22 e1 rfl ?_
  obtain ⟨e2, w⟩ := w
  refine w_geti dX5_expectEnd_5 lk_RX5_189 e2 rfl ?_
  refine w_bipush (v := 59) dX5_expectEnd_8 rfl ?_
  refine w_ic_ne (tgt := 17) dX5_expectEnd_10 rfl (fun c => ?_) (fun c => ?_)
  · rw [if_neg c] at w
    refine w_iconst (v := 1) dX5_expectEnd_17 rfl ?_
    refine w_callV (As := [.int 1]) (st := []) dX5_expectEnd_18 mt_X5_fail g_619 g_621 g_6 rfl e1 rfl rfl (Nat.le_of_ble_eq_true rfl) (Nat.le_refl _) ⟨Nat.le_refl _, Nat.le_refl _⟩ w ?_
    rintro v h6 ⟨rfl, w⟩
    refine w_aload_n dX5_expectEnd_21 rfl ?_
    obtain ⟨e1, w⟩ := w
    refine w_callV (As := []) (st := []) dX5_expectEnd_22 mt_X5_pass g_623 g_625 g_7 rfl e1 rfl rfl (Nat.le_of_ble_eq_true rfl) (Nat.le_refl _) ⟨Nat.le_refl _, Nat.le_refl _⟩ w ?_
    rintro v h8 ⟨rfl, w⟩
    exact w_return dX5_expectEnd_25 rfl ⟨Nat.le_refl _, Nat.le_refl _⟩ w
  · rw [if_pos c] at w
    refine w_iconst (v := 0) dX5_expectEnd_13 rfl ?_
    refine w_goto (tgt := 18) dX5_expectEnd_14 rfl ?_
    refine w_callV (As := [.int 0]) (st := []) dX5_expectEnd_18 mt_X5_fail g_619 g_621 g_6 rfl e1 rfl rfl (Nat.le_of_ble_eq_true rfl) (Nat.le_refl _) ⟨Nat.le_refl _, Nat.le_refl _⟩ w ?_
    rintro v h2 ⟨rfl, w⟩
    refine w_aload_n dX5_expectEnd_21 rfl ?_
    obtain ⟨e1, w⟩ := w
    refine w_callV (As := []) (st := []) dX5_expectEnd_22 mt_X5_pass g_623 g_625 g_7 rfl e1 rfl rfl (Nat.le_of_ble_eq_true rfl) (Nat.le_refl _) ⟨Nat.le_refl _, Nat.le_refl _⟩ w ?_
    rintro v h4 ⟨rfl, w⟩
    exact w_return dX5_expectEnd_25 rfl ⟨Nat.le_refl _, Nat.le_refl _⟩ w
set_option maxRecDepth 20000 in
set_option maxHeartbeats 4000000 in
theorem x_X5_isName {G : pm_G} {d : Nat} {post : pm_PT} {h : pm_H} {l0 : Nat} (w :
    (h.1[l0]? = some (0, 5)) ∧
    (h.1[gp h l0 0]? = some (0, 7)) ∧
    if (gi h (gp h l0 0) 3) = 1 then (
      ∃ (i1 : Nat) (w2 : String × Int64 × Int32 × Int32 × Int32), pm_wd[i1]? = some w2 ∧ (gp h (gp h l0 0) 5) = 1000 + i1 ∧
      if w2.2.2.1 = 0 then (
        post (some (.int 0)) h
      ) else (
        post (some (.int 1)) h
      )
    ) else (
      post (some (.int 0)) h
    )) :
    Wp G (m_X5_isName, d + 1, 0, 0, post) (0, 0) 0 [.ref l0] [] h := by
  refine w_aload_n dX5_isName_0 rfl ?_
  obtain ⟨e1, w⟩ := w
  refine w_getp dX5_isName_1 lk_RX5_22 e1 rfl ?_
  obtain ⟨e2, w⟩ := w
  refine w_geti dX5_isName_4 lk_RX5_45 e2 rfl ?_
  refine w_iconst (v := 1) dX5_isName_7 rfl ?_
  refine w_ic_ne (tgt := 28) dX5_isName_8 rfl (fun c => ?_) (fun c => ?_)
  · rw [if_neg c] at w
    refine w_iconst (v := 0) dX5_isName_28 rfl ?_
    exact w_ireturn dX5_isName_29 rfl rfl ⟨Nat.le_refl _, Nat.le_refl _⟩ w
  · rw [if_pos c] at w
    refine w_aload_n dX5_isName_11 rfl ?_
    refine w_getp dX5_isName_12 lk_RX5_22 e1 rfl ?_
    refine w_getp dX5_isName_15 lk_RX5_48 e2 rfl ?_
    obtain ⟨i1, w2, li1, qi1, w⟩ := w
    refine v_wfree (x := gp h (gp h l0 0) 5) dX5_isName_18 li1 qi1 (Or.inr ⟨_, g_1978⟩) ?_
    refine w_if_eq (tgt := 28) dX5_isName_21 rfl (fun c => ?_) (fun c => ?_)
    · rw [if_pos c] at w
      refine w_iconst (v := 0) dX5_isName_28 rfl ?_
      exact w_ireturn dX5_isName_29 rfl rfl ⟨Nat.le_refl _, Nat.le_refl _⟩ w
    · rw [if_neg c] at w
      refine w_iconst (v := 1) dX5_isName_24 rfl ?_
      refine w_goto (tgt := 29) dX5_isName_25 rfl ?_
      exact w_ireturn dX5_isName_29 rfl rfl ⟨Nat.le_refl _, Nat.le_refl _⟩ w
set_option maxRecDepth 20000 in
set_option maxHeartbeats 4000000 in
theorem x_X5_newName {G : pm_G} {d : Nat} {post : pm_PT} {h : pm_H} {l0 : Nat} {l1 : Nat} (w :
    (h.1[l0]? = some (0, 5)) ∧
    (h.1[gp h l0 0]? = some (0, 7)) ∧
    ci G d m_X5_isName [.ref l0] h fun r1 h2 =>
    if r1 = 0 then (
      (h2.1[l0]? = some (0, 5)) ∧
      cv G d m_X5_fail [.ref l0, .int 1] h2 fun h4 =>
      (h4.1[l0]? = some (0, 5)) ∧
      cv G d m_X5_pass [.ref l0] h4 fun h6 =>
      post (some (.long (gj h (gp h l0 0) 6))) h6
    ) else (
      (h2.1[l1]? = some (0, 4)) ∧
      ci G d m_X4_isTold [.ref l1, .long (gj h (gp h l0 0) 6)] h2 fun r7 h8 =>
      if r7 = 0 then (
        (h8.1[l0]? = some (0, 5)) ∧
        cv G d m_X5_fail [.ref l0, .int 0] h8 fun h10 =>
        (h10.1[l0]? = some (0, 5)) ∧
        cv G d m_X5_pass [.ref l0] h10 fun h12 =>
        post (some (.long (gj h (gp h l0 0) 6))) h12
      ) else (
        (h8.1[l0]? = some (0, 5)) ∧
        cv G d m_X5_fail [.ref l0, .int 3] h8 fun h14 =>
        (h14.1[l0]? = some (0, 5)) ∧
        cv G d m_X5_pass [.ref l0] h14 fun h16 =>
        post (some (.long (gj h (gp h l0 0) 6))) h16
      )
    )) :
    Wp G (m_X5_newName, d + 1, 0, 0, post) (0, 0) 0 [.ref l0, .ref l1, .null, .null] [] h := by
  refine w_aload_n dX5_newName_0 rfl ?_
  obtain ⟨e1, w⟩ := w
  refine w_getp dX5_newName_1 lk_RX5_22 e1 rfl ?_
  obtain ⟨e2, w⟩ := w
  refine w_getl dX5_newName_4 lk_RX5_195 e2 rfl ?_
  refine v_lstore_n (l' := [.ref l0, .ref l1, .long (gj h (gp h l0 0) 6), .null]) dX5_newName_7 (Nat.le_of_ble_eq_true rfl) rfl ?_
  refine w_aload_n dX5_newName_8 rfl ?_
  refine w_aload_n dX5_newName_9 rfl ?_
  refine w_callV (As := []) (st := [.ref l0]) dX5_newName_10 mt_X5_isName g_632 g_634 g_9 rfl e1 rfl rfl (Nat.le_of_ble_eq_true rfl) (Nat.le_refl _) ⟨Nat.le_refl _, Nat.le_refl _⟩ w ?_
  rintro v h2 ⟨r1, rfl, w⟩
  refine w_if_ne (tgt := 20) dX5_newName_13 rfl (fun c => ?_) (fun c => ?_)
  · rw [if_neg c] at w
    refine w_aload_n dX5_newName_20 rfl ?_
    refine w_lload_n dX5_newName_21 rfl ?_
    obtain ⟨e1, w⟩ := w
    refine w_callV (As := [.long (gj h (gp h l0 0) 6)]) (st := [.ref l0]) dX5_newName_22 mt_X4_isTold g_636 g_637 g_638 rfl e1 rfl rfl (Nat.le_of_ble_eq_true rfl) (Nat.le_refl _) ⟨Nat.le_refl _, Nat.le_refl _⟩ w ?_
    rintro v h8 ⟨r7, rfl, w⟩
    refine w_if_eq (tgt := 32) dX5_newName_25 rfl (fun c => ?_) (fun c => ?_)
    · rw [if_pos c] at w
      refine w_iconst (v := 0) dX5_newName_32 rfl ?_
      obtain ⟨e1, w⟩ := w
      refine w_callV (As := [.int 0]) (st := []) dX5_newName_33 mt_X5_fail g_619 g_621 g_6 rfl e1 rfl rfl (Nat.le_of_ble_eq_true rfl) (Nat.le_refl _) ⟨Nat.le_refl _, Nat.le_refl _⟩ w ?_
      rintro v h10 ⟨rfl, w⟩
      refine w_aload_n dX5_newName_36 rfl ?_
      obtain ⟨e1, w⟩ := w
      refine w_callV (As := []) (st := []) dX5_newName_37 mt_X5_pass g_623 g_625 g_7 rfl e1 rfl rfl (Nat.le_of_ble_eq_true rfl) (Nat.le_refl _) ⟨Nat.le_refl _, Nat.le_refl _⟩ w ?_
      rintro v h12 ⟨rfl, w⟩
      refine w_lload_n dX5_newName_40 rfl ?_
      exact w_lreturn dX5_newName_41 rfl ⟨Nat.le_refl _, Nat.le_refl _⟩ w
    · rw [if_neg c] at w
      refine w_iconst (v := 3) dX5_newName_28 rfl ?_
      refine w_goto (tgt := 33) dX5_newName_29 rfl ?_
      obtain ⟨e1, w⟩ := w
      refine w_callV (As := [.int 3]) (st := []) dX5_newName_33 mt_X5_fail g_619 g_621 g_6 rfl e1 rfl rfl (Nat.le_of_ble_eq_true rfl) (Nat.le_refl _) ⟨Nat.le_refl _, Nat.le_refl _⟩ w ?_
      rintro v h14 ⟨rfl, w⟩
      refine w_aload_n dX5_newName_36 rfl ?_
      obtain ⟨e1, w⟩ := w
      refine w_callV (As := []) (st := []) dX5_newName_37 mt_X5_pass g_623 g_625 g_7 rfl e1 rfl rfl (Nat.le_of_ble_eq_true rfl) (Nat.le_refl _) ⟨Nat.le_refl _, Nat.le_refl _⟩ w ?_
      rintro v h16 ⟨rfl, w⟩
      refine w_lload_n dX5_newName_40 rfl ?_
      exact w_lreturn dX5_newName_41 rfl ⟨Nat.le_refl _, Nat.le_refl _⟩ w
  · rw [if_pos c] at w
    refine w_iconst (v := 1) dX5_newName_16 rfl ?_
    refine w_goto (tgt := 33) dX5_newName_17 rfl ?_
    obtain ⟨e1, w⟩ := w
    refine w_callV (As := [.int 1]) (st := []) dX5_newName_33 mt_X5_fail g_619 g_621 g_6 rfl e1 rfl rfl (Nat.le_of_ble_eq_true rfl) (Nat.le_refl _) ⟨Nat.le_refl _, Nat.le_refl _⟩ w ?_
    rintro v h4 ⟨rfl, w⟩
    refine w_aload_n dX5_newName_36 rfl ?_
    obtain ⟨e1, w⟩ := w
    refine w_callV (As := []) (st := []) dX5_newName_37 mt_X5_pass g_623 g_625 g_7 rfl e1 rfl rfl (Nat.le_of_ble_eq_true rfl) (Nat.le_refl _) ⟨Nat.le_refl _, Nat.le_refl _⟩ w ?_
    rintro v h6 ⟨rfl, w⟩
    refine w_lload_n dX5_newName_40 rfl ?_
    exact w_lreturn dX5_newName_41 rfl ⟨Nat.le_refl _, Nat.le_refl _⟩ w
set_option maxRecDepth 20000 in
set_option maxHeartbeats 4000000 in
theorem x_X5_oldName {G : pm_G} {d : Nat} {post : pm_PT} {h : pm_H} {l0 : Nat} {l1 : Nat} {l2 : Int32} (w :
    (h.1[l0]? = some (0, 5)) ∧
    (h.1[gp h l0 0]? = some (0, 7)) ∧
    (h.1[l1]? = some (0, 3)) ∧
    ci G d m_X3_find [.ref l1, .long (gj h (gp h l0 0) 6)] h fun r1 h2 =>
    (h2.1[l0]? = some (0, 5)) ∧
    ci G d m_X5_isName [.ref l0] h2 fun r3 h4 =>
    if r3 = 0 then (
      (h4.1[l0]? = some (0, 5)) ∧
      cv G d m_X5_fail [.ref l0, .int 1] h4 fun h6 =>
      (h6.1[l0]? = some (0, 5)) ∧
      cv G d m_X5_pass [.ref l0] h6 fun h8 =>
      post (some (.int r1)) h8
    ) else (
      if r1 = (-1) then (
        (h4.1[l0]? = some (0, 5)) ∧
        cv G d m_X5_fail [.ref l0, .int 2] h4 fun h10 =>
        (h10.1[l0]? = some (0, 5)) ∧
        cv G d m_X5_pass [.ref l0] h10 fun h12 =>
        post (some (.int r1)) h12
      ) else (
        if r1 = l2 then (
          (h4.1[l0]? = some (0, 5)) ∧
          cv G d m_X5_fail [.ref l0, .int 3] h4 fun h14 =>
          (h14.1[l0]? = some (0, 5)) ∧
          cv G d m_X5_pass [.ref l0] h14 fun h16 =>
          post (some (.int r1)) h16
        ) else (
          (h4.1[l0]? = some (0, 5)) ∧
          cv G d m_X5_fail [.ref l0, .int 0] h4 fun h18 =>
          (h18.1[l0]? = some (0, 5)) ∧
          cv G d m_X5_pass [.ref l0] h18 fun h20 =>
          post (some (.int r1)) h20
        )
      )
    )) :
    Wp G (m_X5_oldName, d + 1, 0, 0, post) (0, 0) 0 [.ref l0, .ref l1, .int l2, .null] [] h := by
  refine w_aload_n dX5_oldName_0 rfl ?_
  refine w_aload_n dX5_oldName_1 rfl ?_
  obtain ⟨e1, w⟩ := w
  refine w_getp dX5_oldName_2 lk_RX5_22 e1 rfl ?_
  obtain ⟨e2, w⟩ := w
  refine w_getl dX5_oldName_5 lk_RX5_195 e2 rfl ?_
  obtain ⟨e3, w⟩ := w
  refine w_callV (As := [.long (gj h (gp h l0 0) 6)]) (st := []) dX5_oldName_8 mt_X3_find g_693 g_641 g_642 rfl e3 rfl rfl (Nat.le_of_ble_eq_true rfl) (Nat.le_refl _) ⟨Nat.le_refl _, Nat.le_refl _⟩ w ?_
  rintro v h2 ⟨r1, rfl, w⟩
  refine v_istore_n (l' := [.ref l0, .ref l1, .int l2, .int r1]) dX5_oldName_11 (Nat.le_of_ble_eq_true rfl) rfl ?_
  refine w_aload_n dX5_oldName_12 rfl ?_
  refine w_aload_n dX5_oldName_13 rfl ?_
  obtain ⟨e1, w⟩ := w
  refine w_callV (As := []) (st := [.ref l0]) dX5_oldName_14 mt_X5_isName g_632 g_634 g_9 rfl e1 rfl rfl (Nat.le_of_ble_eq_true rfl) (Nat.le_refl _) ⟨Nat.le_refl _, Nat.le_refl _⟩ w ?_
  rintro v h4 ⟨r3, rfl, w⟩
  refine w_if_ne (tgt := 24) dX5_oldName_17 rfl (fun c => ?_) (fun c => ?_)
  · rw [if_neg c] at w
    refine w_iload_n dX5_oldName_24 rfl ?_
    refine w_iconst (v := (-1)) dX5_oldName_25 rfl ?_
    refine w_ic_ne (tgt := 33) dX5_oldName_26 rfl (fun c => ?_) (fun c => ?_)
    · rw [if_neg c] at w
      refine w_iload_n dX5_oldName_33 rfl ?_
      refine w_iload_n dX5_oldName_34 rfl ?_
      refine w_ic_ne (tgt := 42) dX5_oldName_35 rfl (fun c => ?_) (fun c => ?_)
      · rw [if_neg c] at w
        refine w_iconst (v := 0) dX5_oldName_42 rfl ?_
        obtain ⟨e1, w⟩ := w
        refine w_callV (As := [.int 0]) (st := []) dX5_oldName_43 mt_X5_fail g_619 g_621 g_6 rfl e1 rfl rfl (Nat.le_of_ble_eq_true rfl) (Nat.le_refl _) ⟨Nat.le_refl _, Nat.le_refl _⟩ w ?_
        rintro v h18 ⟨rfl, w⟩
        refine w_aload_n dX5_oldName_46 rfl ?_
        obtain ⟨e1, w⟩ := w
        refine w_callV (As := []) (st := []) dX5_oldName_47 mt_X5_pass g_623 g_625 g_7 rfl e1 rfl rfl (Nat.le_of_ble_eq_true rfl) (Nat.le_refl _) ⟨Nat.le_refl _, Nat.le_refl _⟩ w ?_
        rintro v h20 ⟨rfl, w⟩
        refine w_iload_n dX5_oldName_50 rfl ?_
        exact w_ireturn dX5_oldName_51 rfl rfl ⟨Nat.le_refl _, Nat.le_refl _⟩ w
      · rw [if_pos c] at w
        refine w_iconst (v := 3) dX5_oldName_38 rfl ?_
        refine w_goto (tgt := 43) dX5_oldName_39 rfl ?_
        obtain ⟨e1, w⟩ := w
        refine w_callV (As := [.int 3]) (st := []) dX5_oldName_43 mt_X5_fail g_619 g_621 g_6 rfl e1 rfl rfl (Nat.le_of_ble_eq_true rfl) (Nat.le_refl _) ⟨Nat.le_refl _, Nat.le_refl _⟩ w ?_
        rintro v h14 ⟨rfl, w⟩
        refine w_aload_n dX5_oldName_46 rfl ?_
        obtain ⟨e1, w⟩ := w
        refine w_callV (As := []) (st := []) dX5_oldName_47 mt_X5_pass g_623 g_625 g_7 rfl e1 rfl rfl (Nat.le_of_ble_eq_true rfl) (Nat.le_refl _) ⟨Nat.le_refl _, Nat.le_refl _⟩ w ?_
        rintro v h16 ⟨rfl, w⟩
        refine w_iload_n dX5_oldName_50 rfl ?_
        exact w_ireturn dX5_oldName_51 rfl rfl ⟨Nat.le_refl _, Nat.le_refl _⟩ w
    · rw [if_pos c] at w
      refine w_iconst (v := 2) dX5_oldName_29 rfl ?_
      refine w_goto (tgt := 43) dX5_oldName_30 rfl ?_
      obtain ⟨e1, w⟩ := w
      refine w_callV (As := [.int 2]) (st := []) dX5_oldName_43 mt_X5_fail g_619 g_621 g_6 rfl e1 rfl rfl (Nat.le_of_ble_eq_true rfl) (Nat.le_refl _) ⟨Nat.le_refl _, Nat.le_refl _⟩ w ?_
      rintro v h10 ⟨rfl, w⟩
      refine w_aload_n dX5_oldName_46 rfl ?_
      obtain ⟨e1, w⟩ := w
      refine w_callV (As := []) (st := []) dX5_oldName_47 mt_X5_pass g_623 g_625 g_7 rfl e1 rfl rfl (Nat.le_of_ble_eq_true rfl) (Nat.le_refl _) ⟨Nat.le_refl _, Nat.le_refl _⟩ w ?_
      rintro v h12 ⟨rfl, w⟩
      refine w_iload_n dX5_oldName_50 rfl ?_
      exact w_ireturn dX5_oldName_51 rfl rfl ⟨Nat.le_refl _, Nat.le_refl _⟩ w
  · rw [if_pos c] at w
    refine w_iconst (v := 1) dX5_oldName_20 rfl ?_
    refine w_goto (tgt := 43) dX5_oldName_21 rfl ?_
    obtain ⟨e1, w⟩ := w
    refine w_callV (As := [.int 1]) (st := []) dX5_oldName_43 mt_X5_fail g_619 g_621 g_6 rfl e1 rfl rfl (Nat.le_of_ble_eq_true rfl) (Nat.le_refl _) ⟨Nat.le_refl _, Nat.le_refl _⟩ w ?_
    rintro v h6 ⟨rfl, w⟩
    refine w_aload_n dX5_oldName_46 rfl ?_
    obtain ⟨e1, w⟩ := w
    refine w_callV (As := []) (st := []) dX5_oldName_47 mt_X5_pass g_623 g_625 g_7 rfl e1 rfl rfl (Nat.le_of_ble_eq_true rfl) (Nat.le_refl _) ⟨Nat.le_refl _, Nat.le_refl _⟩ w ?_
    rintro v h8 ⟨rfl, w⟩
    refine w_iload_n dX5_oldName_50 rfl ?_
    exact w_ireturn dX5_oldName_51 rfl rfl ⟨Nat.le_refl _, Nat.le_refl _⟩ w
set_option maxRecDepth 20000 in
set_option maxHeartbeats 4000000 in
theorem x_X5_toldKind {G : pm_G} {d : Nat} {post : pm_PT} {h : pm_H} {l0 : Nat} (w :
    (h.1[l0]? = some (0, 5)) ∧
    (h.1[gp h l0 0]? = some (0, 7)) ∧
    ∃ (i1 : Nat) (w2 : String × Int64 × Int32 × Int32 × Int32), pm_wd[i1]? = some w2 ∧ (gp h (gp h l0 0) 5) = 1000 + i1 ∧
    if w2.2.2.2.1 = (-1) then (
      cv G d m_X5_fail [.ref l0, .int 1] h fun h4 =>
      (h4.1[l0]? = some (0, 5)) ∧
      cv G d m_X5_pass [.ref l0] h4 fun h6 =>
      post (some (.int w2.2.2.2.1)) h6
    ) else (
      cv G d m_X5_fail [.ref l0, .int 0] h fun h8 =>
      (h8.1[l0]? = some (0, 5)) ∧
      cv G d m_X5_pass [.ref l0] h8 fun h10 =>
      post (some (.int w2.2.2.2.1)) h10
    )) :
    Wp G (m_X5_toldKind, d + 1, 0, 0, post) (0, 0) 0 [.ref l0, .null] [] h := by
  refine w_aload_n dX5_toldKind_0 rfl ?_
  obtain ⟨e1, w⟩ := w
  refine w_getp dX5_toldKind_1 lk_RX5_22 e1 rfl ?_
  obtain ⟨e2, w⟩ := w
  refine w_getp dX5_toldKind_4 lk_RX5_48 e2 rfl ?_
  obtain ⟨i1, w2, li1, qi1, w⟩ := w
  refine v_wkind (x := gp h (gp h l0 0) 5) dX5_toldKind_7 li1 qi1 (Or.inr ⟨_, g_1979⟩) ?_
  refine v_istore_n (l' := [.ref l0, .int w2.2.2.2.1]) dX5_toldKind_10 (Nat.le_of_ble_eq_true rfl) rfl ?_
  refine w_aload_n dX5_toldKind_11 rfl ?_
  refine w_iload_n dX5_toldKind_12 rfl ?_
  refine w_iconst (v := (-1)) dX5_toldKind_13 rfl ?_
  refine w_ic_ne (tgt := 21) dX5_toldKind_14 rfl (fun c => ?_) (fun c => ?_)
  · rw [if_neg c] at w
    refine w_iconst (v := 0) dX5_toldKind_21 rfl ?_
    refine w_callV (As := [.int 0]) (st := []) dX5_toldKind_22 mt_X5_fail g_619 g_621 g_6 rfl e1 rfl rfl (Nat.le_of_ble_eq_true rfl) (Nat.le_refl _) ⟨Nat.le_refl _, Nat.le_refl _⟩ w ?_
    rintro v h8 ⟨rfl, w⟩
    refine w_aload_n dX5_toldKind_25 rfl ?_
    obtain ⟨e1, w⟩ := w
    refine w_callV (As := []) (st := []) dX5_toldKind_26 mt_X5_pass g_623 g_625 g_7 rfl e1 rfl rfl (Nat.le_of_ble_eq_true rfl) (Nat.le_refl _) ⟨Nat.le_refl _, Nat.le_refl _⟩ w ?_
    rintro v h10 ⟨rfl, w⟩
    refine w_iload_n dX5_toldKind_29 rfl ?_
    exact w_ireturn dX5_toldKind_30 rfl rfl ⟨Nat.le_refl _, Nat.le_refl _⟩ w
  · rw [if_pos c] at w
    refine w_iconst (v := 1) dX5_toldKind_17 rfl ?_
    refine w_goto (tgt := 22) dX5_toldKind_18 rfl ?_
    refine w_callV (As := [.int 1]) (st := []) dX5_toldKind_22 mt_X5_fail g_619 g_621 g_6 rfl e1 rfl rfl (Nat.le_of_ble_eq_true rfl) (Nat.le_refl _) ⟨Nat.le_refl _, Nat.le_refl _⟩ w ?_
    rintro v h4 ⟨rfl, w⟩
    refine w_aload_n dX5_toldKind_25 rfl ?_
    obtain ⟨e1, w⟩ := w
    refine w_callV (As := []) (st := []) dX5_toldKind_26 mt_X5_pass g_623 g_625 g_7 rfl e1 rfl rfl (Nat.le_of_ble_eq_true rfl) (Nat.le_refl _) ⟨Nat.le_refl _, Nat.le_refl _⟩ w ?_
    rintro v h6 ⟨rfl, w⟩
    refine w_iload_n dX5_toldKind_29 rfl ?_
    exact w_ireturn dX5_toldKind_30 rfl rfl ⟨Nat.le_refl _, Nat.le_refl _⟩ w
set_option maxRecDepth 20000 in
set_option maxHeartbeats 4000000 in
theorem x_X5_toldNumber {G : pm_G} {d : Nat} {post : pm_PT} {h : pm_H} {l0 : Nat} {l1 : Int32} {l2 : Int32} (w :
    (h.1[l0]? = some (0, 5)) ∧
    (h.1[gp h l0 0]? = some (0, 7)) ∧
    if (gi h (gp h l0 0) 3) = 2 then (
      if (gi h (gp h l0 0) 7) < l1 then (
        cv G d m_X5_fail [.ref l0, .int 4] h fun h2 =>
        (h2.1[l0]? = some (0, 5)) ∧
        cv G d m_X5_pass [.ref l0] h2 fun h4 =>
        post (some (.int (gi h (gp h l0 0) 7))) h4
      ) else (
        if (gi h (gp h l0 0) 7) ≤ l2 then (
          cv G d m_X5_fail [.ref l0, .int 0] h fun h6 =>
          (h6.1[l0]? = some (0, 5)) ∧
          cv G d m_X5_pass [.ref l0] h6 fun h8 =>
          post (some (.int (gi h (gp h l0 0) 7))) h8
        ) else (
          cv G d m_X5_fail [.ref l0, .int 4] h fun h10 =>
          (h10.1[l0]? = some (0, 5)) ∧
          cv G d m_X5_pass [.ref l0] h10 fun h12 =>
          post (some (.int (gi h (gp h l0 0) 7))) h12
        )
      )
    ) else (
      cv G d m_X5_fail [.ref l0, .int 1] h fun h14 =>
      (h14.1[l0]? = some (0, 5)) ∧
      cv G d m_X5_pass [.ref l0] h14 fun h16 =>
      post (some (.int (gi h (gp h l0 0) 7))) h16
    )) :
    Wp G (m_X5_toldNumber, d + 1, 0, 0, post) (0, 0) 0 [.ref l0, .int l1, .int l2, .null] [] h := by
  refine w_aload_n dX5_toldNumber_0 rfl ?_
  obtain ⟨e1, w⟩ := w
  refine w_getp dX5_toldNumber_1 lk_RX5_22 e1 rfl ?_
  obtain ⟨e2, w⟩ := w
  refine w_geti dX5_toldNumber_4 lk_RX5_214 e2 rfl ?_
  refine v_istore_n (l' := [.ref l0, .int l1, .int l2, .int (gi h (gp h l0 0) 7)]) dX5_toldNumber_7 (Nat.le_of_ble_eq_true rfl) rfl ?_
  refine w_aload_n dX5_toldNumber_8 rfl ?_
  refine w_aload_n dX5_toldNumber_9 rfl ?_
  refine w_getp dX5_toldNumber_10 lk_RX5_22 e1 rfl ?_
  refine w_geti dX5_toldNumber_13 lk_RX5_45 e2 rfl ?_
  refine w_iconst (v := 2) dX5_toldNumber_16 rfl ?_
  refine w_ic_eq (tgt := 24) dX5_toldNumber_17 rfl (fun c => ?_) (fun c => ?_)
  · rw [if_pos c] at w
    refine w_iload_n dX5_toldNumber_24 rfl ?_
    refine w_iload_n dX5_toldNumber_25 rfl ?_
    refine w_ic_lt (tgt := 34) dX5_toldNumber_26 rfl (fun c => ?_) (fun c => ?_)
    · rw [if_pos c] at w
      refine w_iconst (v := 4) dX5_toldNumber_34 rfl ?_
      refine w_goto (tgt := 39) dX5_toldNumber_35 rfl ?_
      refine w_callV (As := [.int 4]) (st := []) dX5_toldNumber_39 mt_X5_fail g_619 g_621 g_6 rfl e1 rfl rfl (Nat.le_of_ble_eq_true rfl) (Nat.le_refl _) ⟨Nat.le_refl _, Nat.le_refl _⟩ w ?_
      rintro v h2 ⟨rfl, w⟩
      refine w_aload_n dX5_toldNumber_42 rfl ?_
      obtain ⟨e1, w⟩ := w
      refine w_callV (As := []) (st := []) dX5_toldNumber_43 mt_X5_pass g_623 g_625 g_7 rfl e1 rfl rfl (Nat.le_of_ble_eq_true rfl) (Nat.le_refl _) ⟨Nat.le_refl _, Nat.le_refl _⟩ w ?_
      rintro v h4 ⟨rfl, w⟩
      refine w_iload_n dX5_toldNumber_46 rfl ?_
      exact w_ireturn dX5_toldNumber_47 rfl rfl ⟨Nat.le_refl _, Nat.le_refl _⟩ w
    · rw [if_neg c] at w
      refine w_iload_n dX5_toldNumber_29 rfl ?_
      refine w_iload_n dX5_toldNumber_30 rfl ?_
      refine w_ic_le (tgt := 38) dX5_toldNumber_31 rfl (fun c => ?_) (fun c => ?_)
      · rw [if_pos c] at w
        refine w_iconst (v := 0) dX5_toldNumber_38 rfl ?_
        refine w_callV (As := [.int 0]) (st := []) dX5_toldNumber_39 mt_X5_fail g_619 g_621 g_6 rfl e1 rfl rfl (Nat.le_of_ble_eq_true rfl) (Nat.le_refl _) ⟨Nat.le_refl _, Nat.le_refl _⟩ w ?_
        rintro v h6 ⟨rfl, w⟩
        refine w_aload_n dX5_toldNumber_42 rfl ?_
        obtain ⟨e1, w⟩ := w
        refine w_callV (As := []) (st := []) dX5_toldNumber_43 mt_X5_pass g_623 g_625 g_7 rfl e1 rfl rfl (Nat.le_of_ble_eq_true rfl) (Nat.le_refl _) ⟨Nat.le_refl _, Nat.le_refl _⟩ w ?_
        rintro v h8 ⟨rfl, w⟩
        refine w_iload_n dX5_toldNumber_46 rfl ?_
        exact w_ireturn dX5_toldNumber_47 rfl rfl ⟨Nat.le_refl _, Nat.le_refl _⟩ w
      · rw [if_neg c] at w
        refine w_iconst (v := 4) dX5_toldNumber_34 rfl ?_
        refine w_goto (tgt := 39) dX5_toldNumber_35 rfl ?_
        refine w_callV (As := [.int 4]) (st := []) dX5_toldNumber_39 mt_X5_fail g_619 g_621 g_6 rfl e1 rfl rfl (Nat.le_of_ble_eq_true rfl) (Nat.le_refl _) ⟨Nat.le_refl _, Nat.le_refl _⟩ w ?_
        rintro v h10 ⟨rfl, w⟩
        refine w_aload_n dX5_toldNumber_42 rfl ?_
        obtain ⟨e1, w⟩ := w
        refine w_callV (As := []) (st := []) dX5_toldNumber_43 mt_X5_pass g_623 g_625 g_7 rfl e1 rfl rfl (Nat.le_of_ble_eq_true rfl) (Nat.le_refl _) ⟨Nat.le_refl _, Nat.le_refl _⟩ w ?_
        rintro v h12 ⟨rfl, w⟩
        refine w_iload_n dX5_toldNumber_46 rfl ?_
        exact w_ireturn dX5_toldNumber_47 rfl rfl ⟨Nat.le_refl _, Nat.le_refl _⟩ w
  · rw [if_neg c] at w
    refine w_iconst (v := 1) dX5_toldNumber_20 rfl ?_
    refine w_goto (tgt := 39) dX5_toldNumber_21 rfl ?_
    refine w_callV (As := [.int 1]) (st := []) dX5_toldNumber_39 mt_X5_fail g_619 g_621 g_6 rfl e1 rfl rfl (Nat.le_of_ble_eq_true rfl) (Nat.le_refl _) ⟨Nat.le_refl _, Nat.le_refl _⟩ w ?_
    rintro v h14 ⟨rfl, w⟩
    refine w_aload_n dX5_toldNumber_42 rfl ?_
    obtain ⟨e1, w⟩ := w
    refine w_callV (As := []) (st := []) dX5_toldNumber_43 mt_X5_pass g_623 g_625 g_7 rfl e1 rfl rfl (Nat.le_of_ble_eq_true rfl) (Nat.le_refl _) ⟨Nat.le_refl _, Nat.le_refl _⟩ w ?_
    rintro v h16 ⟨rfl, w⟩
    refine w_iload_n dX5_toldNumber_46 rfl ?_
    exact w_ireturn dX5_toldNumber_47 rfl rfl ⟨Nat.le_refl _, Nat.le_refl _⟩ w
set_option maxRecDepth 20000 in
set_option maxHeartbeats 4000000 in
theorem x_X7_addBytes {G : pm_G} {d : Nat} {post : pm_PT} {h : pm_H} {l0 : Nat} {l1 : Int64} (w :
    Wp G (m_X7_addBytes, d + 1, 0, 0, post) (0, 0) 3 [.ref l0, .long l1, .null, .int 56, .null, .null] [] h) :
    Wp G (m_X7_addBytes, d + 1, 0, 0, post) (0, 0) 0 [.ref l0, .long l1, .null, .null, .null, .null] [] h := by
  refine w_bipush (v := 56) dX7_addBytes_0 rfl ?_
  refine v_istore_n (l' := [.ref l0, .long l1, .null, .int 56, .null, .null]) dX7_addBytes_2 (Nat.le_of_ble_eq_true rfl) rfl ?_
  exact w
set_option maxRecDepth 20000 in
set_option maxHeartbeats 4000000 in
theorem x_X7_addBytes_3 {G : pm_G} {d : Nat} {post : pm_PT} {h : pm_H} {l0 : Nat} {l1 : Int64} {l3 : Int32} (w :
    if l3 < 0 then (
      post none h
    ) else (
      ∀ x1 : Int32, x1 = ((((l1).toUInt64 >>> ((l3 : Int32).toInt64.toUInt64 &&& 63)).toInt64) &&& (255 : Int64) : Int64).toInt32 →
      if x1 = 10 then (
        Wp G (m_X7_addBytes, d + 1, 0, 0, post) (0, 0) 38 [.ref l0, .long l1, .null, .int l3, .int x1, .null] [] h
      ) else (
        if x1 < 32 then (
          Wp G (m_X7_addBytes, d + 1, 0, 0, post) (0, 0) 42 [.ref l0, .long l1, .null, .int l3, .int x1, .null] [] h
        ) else (
          if 126 < x1 then (
            Wp G (m_X7_addBytes, d + 1, 0, 0, post) (0, 0) 42 [.ref l0, .long l1, .null, .int l3, .int x1, .null] [] h
          ) else (
            Wp G (m_X7_addBytes, d + 1, 0, 0, post) (0, 0) 38 [.ref l0, .long l1, .null, .int l3, .int x1, .null] [] h
          )
        )
      )
    )) :
    Wp G (m_X7_addBytes, d + 1, 0, 0, post) (0, 0) 3 [.ref l0, .long l1, .null, .int l3, .null, .null] [] h := by
  refine w_iload_n dX7_addBytes_3 rfl ?_
  refine w_if_lt (tgt := 97) dX7_addBytes_4 rfl (fun c => ?_) (fun c => ?_)
  · rw [if_pos c] at w
    exact w_return dX7_addBytes_97 rfl ⟨Nat.le_refl _, Nat.le_refl _⟩ w
  · rw [if_neg c] at w
    refine w_lload_n dX7_addBytes_7 rfl ?_
    refine w_iload_n dX7_addBytes_8 rfl ?_
    refine w_lushr dX7_addBytes_9 ?_
    refine w_ldc2 (v := (255 : Int64)) dX7_addBytes_10 g_556 ?_
    refine w_land dX7_addBytes_13 ?_
    refine w_l2i dX7_addBytes_14 ?_
    obtain ⟨x1, qx1⟩ : ∃ y : Int32, y = ((((l1).toUInt64 >>> ((l3 : Int32).toInt64.toUInt64 &&& 63)).toInt64) &&& (255 : Int64) : Int64).toInt32 := ⟨_, rfl⟩
    have w := w x1 qx1
    rw [← qx1]
    refine v_istore (l' := [.ref l0, .long l1, .null, .int l3, .int x1, .null]) dX7_addBytes_15 (Nat.le_of_ble_eq_true rfl) rfl ?_
    refine w_iload dX7_addBytes_17 rfl ?_
    refine w_bipush (v := 10) dX7_addBytes_19 rfl ?_
    refine w_ic_eq (tgt := 38) dX7_addBytes_21 rfl (fun c => ?_) (fun c => ?_)
    · rw [if_pos c] at w
      exact w
    · rw [if_neg c] at w
      refine w_iload dX7_addBytes_24 rfl ?_
      refine w_bipush (v := 32) dX7_addBytes_26 rfl ?_
      refine w_ic_lt (tgt := 42) dX7_addBytes_28 rfl (fun c => ?_) (fun c => ?_)
      · rw [if_pos c] at w
        exact w
      · rw [if_neg c] at w
        refine w_iload dX7_addBytes_31 rfl ?_
        refine w_bipush (v := 126) dX7_addBytes_33 rfl ?_
        refine w_ic_gt (tgt := 42) dX7_addBytes_35 rfl (fun c => ?_) (fun c => ?_)
        · rw [if_pos c] at w
          exact w
        · rw [if_neg c] at w
          exact w
set_option maxRecDepth 20000 in
set_option maxHeartbeats 4000000 in
theorem x_X7_addBytes_38 {G : pm_G} {d : Nat} {post : pm_PT} {h : pm_H} {l0 : Nat} {l1 : Int64} {l3 : Int32} {l4 : Int32} (w :
    (h.1[l0]? = some (0, 7)) ∧
    if (gi h l0 1) < 0 then (
      Wp G (m_X7_addBytes, d + 1, 0, 0, post) (0, 0) 3 [.ref l0, .long l1, .null, .int (l3 + (-8)), .null, .null] [] h
    ) else (
      ∃ n1 : Nat, h.1[gp h l0 0]? = some (3, n1) ∧
      if (Int32.ofNat n1) ≤ (gi h l0 1) then (
        Wp G (m_X7_addBytes, d + 1, 0, 0, post) (0, 0) 3 [.ref l0, .long l1, .null, .int (l3 + (-8)), .null, .null] [] h
      ) else (
        (vp_in (gi h l0 1) n1) ∧
        ∀ h2 : pm_H, h2 = si h (gp h l0 0) (gi h l0 1 : Int32).toNatClampNeg (vp_nar .byte ((l4 : Int32).toInt8.toInt32)) →
        ∀ h3 : pm_H, h3 = si h2 l0 1 ((gi h2 l0 1) + 1) →
        Wp G (m_X7_addBytes, d + 1, 0, 0, post) (0, 0) 3 [.ref l0, .long l1, .null, .int (l3 + (-8)), .null, .null] [] h3
      )
    )) :
    Wp G (m_X7_addBytes, d + 1, 0, 0, post) (0, 0) 38 [.ref l0, .long l1, .null, .int l3, .int l4, .null] [] h := by
  refine w_iconst (v := 1) dX7_addBytes_38 rfl ?_
  refine w_goto (tgt := 43) dX7_addBytes_39 rfl ?_
  refine v_istore (l' := [.ref l0, .long l1, .null, .int l3, .int l4, .int 1]) dX7_addBytes_43 (Nat.le_of_ble_eq_true rfl) rfl ?_
  refine w_iload dX7_addBytes_45 rfl ?_
  refine w_if_eq (tgt := 91) dX7_addBytes_47 rfl (fun c => ?_) (fun c => ?_)
  · exact absurd c (by decide)
  · refine w_aload_n dX7_addBytes_50 rfl ?_
    obtain ⟨e1, w⟩ := w
    refine w_geti dX7_addBytes_51 lk_RX7_15 e1 rfl ?_
    refine w_if_lt (tgt := 91) dX7_addBytes_54 rfl (fun c => ?_) (fun c => ?_)
    · rw [if_pos c] at w
      refine v_iinc (l' := [.ref l0, .long l1, .null, .int (l3 + (-8)), .int l4, .int 1]) (v := l3 + (-8)) dX7_addBytes_91 rfl rfl (Nat.le_of_ble_eq_true rfl) rfl ?_
      refine w_goto (tgt := 3) dX7_addBytes_94 rfl ?_
      exact w_drop (l' := [.ref l0, .long l1, .null, .int (l3 + (-8)), .null, .null]) ⟨Or.inr rfl, Or.inr rfl, Or.inl rfl, Or.inr rfl, Or.inl rfl, Or.inl rfl, trivial⟩ w
    · rw [if_neg c] at w
      refine w_aload_n dX7_addBytes_57 rfl ?_
      refine w_geti dX7_addBytes_58 lk_RX7_15 e1 rfl ?_
      refine w_aload_n dX7_addBytes_61 rfl ?_
      refine w_getp dX7_addBytes_62 lk_RX7_11 e1 rfl ?_
      obtain ⟨n1, ln1, w⟩ := w
      refine w_alen dX7_addBytes_65 ln1 (by decide) rfl ?_
      refine w_ic_ge (tgt := 91) dX7_addBytes_66 rfl (fun c => ?_) (fun c => ?_)
      · rw [if_pos c] at w
        refine v_iinc (l' := [.ref l0, .long l1, .null, .int (l3 + (-8)), .int l4, .int 1]) (v := l3 + (-8)) dX7_addBytes_91 rfl rfl (Nat.le_of_ble_eq_true rfl) rfl ?_
        refine w_goto (tgt := 3) dX7_addBytes_94 rfl ?_
        exact w_drop (l' := [.ref l0, .long l1, .null, .int (l3 + (-8)), .null, .null]) ⟨Or.inr rfl, Or.inr rfl, Or.inl rfl, Or.inr rfl, Or.inl rfl, Or.inl rfl, trivial⟩ w
      · rw [if_neg c] at w
        refine w_aload_n dX7_addBytes_69 rfl ?_
        refine w_getp dX7_addBytes_70 lk_RX7_11 e1 rfl ?_
        refine w_aload_n dX7_addBytes_73 rfl ?_
        refine w_geti dX7_addBytes_74 lk_RX7_15 e1 rfl ?_
        refine w_iload dX7_addBytes_77 rfl ?_
        refine w_i2b dX7_addBytes_79 ?_
        obtain ⟨e3, w⟩ := w
        refine w_bast dX7_addBytes_80 ln1 e3 ?_
        have w := w _ rfl
        refine w_aload_n dX7_addBytes_81 rfl ?_
        refine w_dup dX7_addBytes_82 rfl ?_
        refine w_geti dX7_addBytes_83 lk_RX7_15 e1 rfl ?_
        refine w_iconst (v := 1) dX7_addBytes_86 rfl ?_
        refine w_iadd dX7_addBytes_87 ?_
        refine w_puti dX7_addBytes_88 lk_RX7_15 e1 rfl (Or.inl rfl) ?_
        have w := w _ rfl
        refine v_iinc (l' := [.ref l0, .long l1, .null, .int (l3 + (-8)), .int l4, .int 1]) (v := l3 + (-8)) dX7_addBytes_91 rfl rfl (Nat.le_of_ble_eq_true rfl) rfl ?_
        refine w_goto (tgt := 3) dX7_addBytes_94 rfl ?_
        exact w_drop (l' := [.ref l0, .long l1, .null, .int (l3 + (-8)), .null, .null]) ⟨Or.inr rfl, Or.inr rfl, Or.inl rfl, Or.inr rfl, Or.inl rfl, Or.inl rfl, trivial⟩ w
set_option maxRecDepth 20000 in
set_option maxHeartbeats 4000000 in
theorem x_X7_addBytes_42 {G : pm_G} {d : Nat} {post : pm_PT} {h : pm_H} {l0 : Nat} {l1 : Int64} {l3 : Int32} {l4 : Int32} (w :
    Wp G (m_X7_addBytes, d + 1, 0, 0, post) (0, 0) 3 [.ref l0, .long l1, .null, .int (l3 + (-8)), .null, .null] [] h) :
    Wp G (m_X7_addBytes, d + 1, 0, 0, post) (0, 0) 42 [.ref l0, .long l1, .null, .int l3, .int l4, .null] [] h := by
  refine w_iconst (v := 0) dX7_addBytes_42 rfl ?_
  refine v_istore (l' := [.ref l0, .long l1, .null, .int l3, .int l4, .int 0]) dX7_addBytes_43 (Nat.le_of_ble_eq_true rfl) rfl ?_
  refine w_iload dX7_addBytes_45 rfl ?_
  refine w_if_eq (tgt := 91) dX7_addBytes_47 rfl (fun c => ?_) (fun c => ?_)
  · refine v_iinc (l' := [.ref l0, .long l1, .null, .int (l3 + (-8)), .int l4, .int 0]) (v := l3 + (-8)) dX7_addBytes_91 rfl rfl (Nat.le_of_ble_eq_true rfl) rfl ?_
    refine w_goto (tgt := 3) dX7_addBytes_94 rfl ?_
    exact w_drop (l' := [.ref l0, .long l1, .null, .int (l3 + (-8)), .null, .null]) ⟨Or.inr rfl, Or.inr rfl, Or.inl rfl, Or.inr rfl, Or.inl rfl, Or.inl rfl, trivial⟩ w
  · exact absurd c (by decide)
set_option maxRecDepth 20000 in
set_option maxHeartbeats 4000000 in
theorem x_X7_begin {G : pm_G} {d : Nat} {post : pm_PT} {h : pm_H} {l0 : Nat} (w :
    (h.1[l0]? = some (0, 7)) ∧
    ∀ h1 : pm_H, h1 = si h l0 2 0 →
    cv G d m_X7_next [.ref l0] h1 fun h3 =>
    post none h3) :
    Wp G (m_X7_begin, d + 1, 0, 0, post) (0, 0) 0 [.ref l0] [] h := by
  refine w_aload_n dX7_begin_0 rfl ?_
  refine w_iconst (v := 0) dX7_begin_1 rfl ?_
  obtain ⟨e1, w⟩ := w
  refine w_puti dX7_begin_2 lk_RX7_19 e1 rfl (Or.inl rfl) ?_
  have w := w _ rfl
  refine w_aload_n dX7_begin_5 rfl ?_
  refine w_callV (As := []) (st := []) dX7_begin_6 mt_X7_next g_573 g_574 g_575 rfl e1 rfl rfl (Nat.le_of_ble_eq_true rfl) (Nat.le_refl _) ⟨Nat.le_refl _, Nat.le_refl _⟩ w ?_
  rintro v h3 ⟨rfl, w⟩
  exact w_return dX7_begin_9 rfl ⟨Nat.le_refl _, Nat.le_refl _⟩ w
set_option maxRecDepth 20000 in
set_option maxHeartbeats 4000000 in
theorem x_X7_next {G : pm_G} {d : Nat} {post : pm_PT} {h : pm_H} {l0 : Nat} (w :
    (h.1[l0]? = some (0, 7)) ∧
    if (gi h l0 1) ≤ (gi h l0 2) then (
      Wp G (m_X7_next, d + 1, 0, 0, post) (0, 0) 50 [.ref l0, .null] [] h
    ) else (
      ci G d m_X7_signAt [.ref l0, .int (gi h l0 2)] h fun r1 h2 =>
      if r1 = 32 then (
        (h2.1[l0]? = some (0, 7)) ∧
        ∀ h3 : pm_H, h3 = si h2 l0 2 ((gi h2 l0 2) + 1) →
        Wp G (m_X7_next, d + 1, 0, 0, post) (0, 0) 0 [.ref l0, .null] [] h3
      ) else (
        (h2.1[l0]? = some (0, 7)) ∧
        ci G d m_X7_signAt [.ref l0, .int (gi h2 l0 2)] h2 fun r4 h5 =>
        if r4 = 10 then (
          (h5.1[l0]? = some (0, 7)) ∧
          ∀ h6 : pm_H, h6 = si h5 l0 2 ((gi h5 l0 2) + 1) →
          Wp G (m_X7_next, d + 1, 0, 0, post) (0, 0) 0 [.ref l0, .null] [] h6
        ) else (
          Wp G (m_X7_next, d + 1, 0, 0, post) (0, 0) 50 [.ref l0, .null] [] h5
        )
      )
    )) :
    Wp G (m_X7_next, d + 1, 0, 0, post) (0, 0) 0 [.ref l0, .null] [] h := by
  refine w_aload_n dX7_next_0 rfl ?_
  obtain ⟨e1, w⟩ := w
  refine w_geti dX7_next_1 lk_RX7_19 e1 rfl ?_
  refine w_aload_n dX7_next_4 rfl ?_
  refine w_geti dX7_next_5 lk_RX7_15 e1 rfl ?_
  refine w_ic_ge (tgt := 50) dX7_next_8 rfl (fun c => ?_) (fun c => ?_)
  · rw [if_pos c] at w
    exact w
  · rw [if_neg c] at w
    refine w_aload_n dX7_next_11 rfl ?_
    refine w_aload_n dX7_next_12 rfl ?_
    refine w_geti dX7_next_13 lk_RX7_19 e1 rfl ?_
    refine w_callV (As := [.int (gi h l0 2)]) (st := []) dX7_next_16 mt_X7_signAt g_577 g_579 g_0 rfl e1 rfl rfl (Nat.le_of_ble_eq_true rfl) (Nat.le_refl _) ⟨Nat.le_refl _, Nat.le_refl _⟩ w ?_
    rintro v h2 ⟨r1, rfl, w⟩
    refine w_bipush (v := 32) dX7_next_19 rfl ?_
    refine w_ic_eq (tgt := 37) dX7_next_21 rfl (fun c => ?_) (fun c => ?_)
    · rw [if_pos c] at w
      refine w_aload_n dX7_next_37 rfl ?_
      refine w_dup dX7_next_38 rfl ?_
      obtain ⟨e1, w⟩ := w
      refine w_geti dX7_next_39 lk_RX7_19 e1 rfl ?_
      refine w_iconst (v := 1) dX7_next_42 rfl ?_
      refine w_iadd dX7_next_43 ?_
      refine w_puti dX7_next_44 lk_RX7_19 e1 rfl (Or.inl rfl) ?_
      have w := w _ rfl
      refine w_goto (tgt := 0) dX7_next_47 rfl ?_
      exact w
    · rw [if_neg c] at w
      refine w_aload_n dX7_next_24 rfl ?_
      refine w_aload_n dX7_next_25 rfl ?_
      obtain ⟨e1, w⟩ := w
      refine w_geti dX7_next_26 lk_RX7_19 e1 rfl ?_
      refine w_callV (As := [.int (gi h2 l0 2)]) (st := []) dX7_next_29 mt_X7_signAt g_577 g_579 g_0 rfl e1 rfl rfl (Nat.le_of_ble_eq_true rfl) (Nat.le_refl _) ⟨Nat.le_refl _, Nat.le_refl _⟩ w ?_
      rintro v h5 ⟨r4, rfl, w⟩
      refine w_bipush (v := 10) dX7_next_32 rfl ?_
      refine w_ic_ne (tgt := 50) dX7_next_34 rfl (fun c => ?_) (fun c => ?_)
      · rw [if_neg c] at w
        exact w
      · rw [if_pos c] at w
        refine w_aload_n dX7_next_37 rfl ?_
        refine w_dup dX7_next_38 rfl ?_
        obtain ⟨e1, w⟩ := w
        refine w_geti dX7_next_39 lk_RX7_19 e1 rfl ?_
        refine w_iconst (v := 1) dX7_next_42 rfl ?_
        refine w_iadd dX7_next_43 ?_
        refine w_puti dX7_next_44 lk_RX7_19 e1 rfl (Or.inl rfl) ?_
        have w := w _ rfl
        refine w_goto (tgt := 0) dX7_next_47 rfl ?_
        exact w
set_option maxRecDepth 20000 in
set_option maxHeartbeats 4000000 in
theorem x_X7_next_50 {G : pm_G} {d : Nat} {post : pm_PT} {h : pm_H} {l0 : Nat} (w :
    (h.1[l0]? = some (0, 7)) ∧
    ∀ h1 : pm_H, h1 = si h l0 4 (gi h l0 2) →
    ∀ h2 : pm_H, h2 = sp h1 l0 5 1000 →
    ∀ h3 : pm_H, h3 = sl h2 l0 6 (0 : Int64) →
    ∀ h4 : pm_H, h4 = si h3 l0 7 (-1) →
    ∀ h5 : pm_H, h5 = si h4 l0 8 (-1) →
    ci G d m_X7_signAt [.ref l0, .int (gi h5 l0 2)] h5 fun r6 h7 =>
    if r6 = (-1) then (
      (h7.1[l0]? = some (0, 7)) ∧
      ∀ h8 : pm_H, h8 = si h7 l0 3 0 →
      post none h8
    ) else (
      ci G d m_X7_isLetter [.int r6] h7 fun r9 h10 =>
      if r9 = 0 then (
        ci G d m_X7_isDigit [.int r6] h10 fun r11 h12 =>
        if r11 = 0 then (
          (h12.1[l0]? = some (0, 7)) ∧
          cv G d m_X7_readSign [.ref l0, .int r6] h12 fun h14 =>
          post none h14
        ) else (
          (h12.1[l0]? = some (0, 7)) ∧
          cv G d m_X7_readNumber [.ref l0] h12 fun h16 =>
          post none h16
        )
      ) else (
        (h10.1[l0]? = some (0, 7)) ∧
        cv G d m_X7_readWord [.ref l0] h10 fun h18 =>
        post none h18
      )
    )) :
    Wp G (m_X7_next, d + 1, 0, 0, post) (0, 0) 50 [.ref l0, .null] [] h := by
  refine w_aload_n dX7_next_50 rfl ?_
  refine w_aload_n dX7_next_51 rfl ?_
  obtain ⟨e1, w⟩ := w
  refine w_geti dX7_next_52 lk_RX7_19 e1 rfl ?_
  refine w_puti dX7_next_55 lk_RX7_25 e1 rfl (Or.inl rfl) ?_
  have w := w _ rfl
  refine w_aload_n dX7_next_58 rfl ?_
  refine w_getw (i := 0) dX7_next_59 rfl g_167 ?_
  refine w_putp dX7_next_62 lk_RX7_34 e1 rfl (Or.inl rfl) ?_
  have w := w _ rfl
  refine w_aload_n dX7_next_65 rfl ?_
  refine w_lconst (v := 0) dX7_next_66 rfl ?_
  refine w_putl dX7_next_67 lk_RX7_37 e1 rfl (Or.inl rfl) ?_
  have w := w _ rfl
  refine w_aload_n dX7_next_70 rfl ?_
  refine w_iconst (v := (-1)) dX7_next_71 rfl ?_
  refine w_puti dX7_next_72 lk_RX7_41 e1 rfl (Or.inl rfl) ?_
  have w := w _ rfl
  refine w_aload_n dX7_next_75 rfl ?_
  refine w_iconst (v := (-1)) dX7_next_76 rfl ?_
  refine w_puti dX7_next_77 lk_RX7_44 e1 rfl (Or.inl rfl) ?_
  have w := w _ rfl
  refine w_aload_n dX7_next_80 rfl ?_
  refine w_aload_n dX7_next_81 rfl ?_
  refine w_geti dX7_next_82 lk_RX7_19 e1 rfl ?_
  refine w_callV (As := [.int (gi (si (si (sl (sp (si h l0 4 (gi h l0 2)) l0 5 1000) l0 6 (0 : Int64)) l0 7 (-1)) l0 8 (-1)) l0 2)]) (st := []) dX7_next_85 mt_X7_signAt g_577 g_579 g_0 rfl e1 rfl rfl (Nat.le_of_ble_eq_true rfl) (Nat.le_refl _) ⟨Nat.le_refl _, Nat.le_refl _⟩ w ?_
  rintro v h7 ⟨r6, rfl, w⟩
  refine v_istore_n (l' := [.ref l0, .int r6]) dX7_next_88 (Nat.le_of_ble_eq_true rfl) rfl ?_
  refine w_iload_n dX7_next_89 rfl ?_
  refine w_iconst (v := (-1)) dX7_next_90 rfl ?_
  refine w_ic_ne (tgt := 102) dX7_next_91 rfl (fun c => ?_) (fun c => ?_)
  · rw [if_neg c] at w
    refine w_iload_n dX7_next_102 rfl ?_
    refine w_callS (As := [.int r6]) (st := []) dX7_next_103 mt_X7_isLetter g_581 g_582 rfl rfl (Nat.le_of_ble_eq_true rfl) (Nat.le_refl _) ⟨Nat.le_refl _, Nat.le_refl _⟩ w ?_
    rintro v h10 ⟨r9, rfl, w⟩
    refine w_if_eq (tgt := 116) dX7_next_106 rfl (fun c => ?_) (fun c => ?_)
    · rw [if_pos c] at w
      refine w_iload_n dX7_next_116 rfl ?_
      refine w_callS (As := [.int r6]) (st := []) dX7_next_117 mt_X7_isDigit g_598 g_599 rfl rfl (Nat.le_of_ble_eq_true rfl) (Nat.le_refl _) ⟨Nat.le_refl _, Nat.le_refl _⟩ w ?_
      rintro v h12 ⟨r11, rfl, w⟩
      refine w_if_eq (tgt := 130) dX7_next_120 rfl (fun c => ?_) (fun c => ?_)
      · rw [if_pos c] at w
        refine w_aload_n dX7_next_130 rfl ?_
        refine w_iload_n dX7_next_131 rfl ?_
        obtain ⟨e1, w⟩ := w
        refine w_callV (As := [.int r6]) (st := []) dX7_next_132 mt_X7_readSign g_605 g_607 g_3 rfl e1 rfl rfl (Nat.le_of_ble_eq_true rfl) (Nat.le_refl _) ⟨Nat.le_refl _, Nat.le_refl _⟩ w ?_
        rintro v h14 ⟨rfl, w⟩
        exact w_return dX7_next_135 rfl ⟨Nat.le_refl _, Nat.le_refl _⟩ w
      · rw [if_neg c] at w
        refine w_aload_n dX7_next_123 rfl ?_
        obtain ⟨e1, w⟩ := w
        refine w_callV (As := []) (st := []) dX7_next_124 mt_X7_readNumber g_601 g_603 g_2 rfl e1 rfl rfl (Nat.le_of_ble_eq_true rfl) (Nat.le_refl _) ⟨Nat.le_refl _, Nat.le_refl _⟩ w ?_
        rintro v h16 ⟨rfl, w⟩
        refine w_goto (tgt := 135) dX7_next_127 rfl ?_
        exact w_return dX7_next_135 rfl ⟨Nat.le_refl _, Nat.le_refl _⟩ w
    · rw [if_neg c] at w
      refine w_aload_n dX7_next_109 rfl ?_
      obtain ⟨e1, w⟩ := w
      refine w_callV (As := []) (st := []) dX7_next_110 mt_X7_readWord g_584 g_586 g_1 rfl e1 rfl rfl (Nat.le_of_ble_eq_true rfl) (Nat.le_refl _) ⟨Nat.le_refl _, Nat.le_refl _⟩ w ?_
      rintro v h18 ⟨rfl, w⟩
      refine w_goto (tgt := 135) dX7_next_113 rfl ?_
      exact w_return dX7_next_135 rfl ⟨Nat.le_refl _, Nat.le_refl _⟩ w
  · rw [if_pos c] at w
    refine w_aload_n dX7_next_94 rfl ?_
    refine w_iconst (v := 0) dX7_next_95 rfl ?_
    obtain ⟨e1, w⟩ := w
    refine w_puti dX7_next_96 lk_RX7_22 e1 rfl (Or.inl rfl) ?_
    have w := w _ rfl
    refine w_goto (tgt := 135) dX7_next_99 rfl ?_
    exact w_return dX7_next_135 rfl ⟨Nat.le_refl _, Nat.le_refl _⟩ w
set_option maxRecDepth 20000 in
set_option maxHeartbeats 4000000 in
theorem x_X7_readWord {G : pm_G} {d : Nat} {post : pm_PT} {h : pm_H} {l0 : Nat} (w :
    (h.1[l0]? = some (0, 7)) ∧
    if (gi h l0 1) ≤ (gi h l0 2) then (
      Wp G (m_X7_readWord, d + 1, 0, 0, post) (0, 0) 57 [.ref l0] [] h
    ) else (
      ci G d m_X7_signAt [.ref l0, .int (gi h l0 2)] h fun r1 h2 =>
      ci G d m_X7_isLetter [.int r1] h2 fun r3 h4 =>
      if r3 = 0 then (
        Wp G (m_X7_readWord, d + 1, 0, 0, post) (0, 0) 57 [.ref l0] [] h4
      ) else (
        (h4.1[l0]? = some (0, 7)) ∧
        ci G d m_X7_signAt [.ref l0, .int (gi h4 l0 2)] h4 fun r5 h6 =>
        cl G d m_X9_withLetter [.long (gj h4 l0 6), .int r5] h6 fun r7 h8 =>
        (h8.1[l0]? = some (0, 7)) ∧
        ∀ h9 : pm_H, h9 = sl h8 l0 6 r7 →
        ∀ h10 : pm_H, h10 = si h9 l0 2 ((gi h9 l0 2) + 1) →
        Wp G (m_X7_readWord, d + 1, 0, 0, post) (0, 0) 0 [.ref l0] [] h10
      )
    )) :
    Wp G (m_X7_readWord, d + 1, 0, 0, post) (0, 0) 0 [.ref l0] [] h := by
  refine w_aload_n dX7_readWord_0 rfl ?_
  obtain ⟨e1, w⟩ := w
  refine w_geti dX7_readWord_1 lk_RX7_19 e1 rfl ?_
  refine w_aload_n dX7_readWord_4 rfl ?_
  refine w_geti dX7_readWord_5 lk_RX7_15 e1 rfl ?_
  refine w_ic_ge (tgt := 57) dX7_readWord_8 rfl (fun c => ?_) (fun c => ?_)
  · rw [if_pos c] at w
    exact w
  · rw [if_neg c] at w
    refine w_aload_n dX7_readWord_11 rfl ?_
    refine w_aload_n dX7_readWord_12 rfl ?_
    refine w_geti dX7_readWord_13 lk_RX7_19 e1 rfl ?_
    refine w_callV (As := [.int (gi h l0 2)]) (st := []) dX7_readWord_16 mt_X7_signAt g_577 g_579 g_0 rfl e1 rfl rfl (Nat.le_of_ble_eq_true rfl) (Nat.le_refl _) ⟨Nat.le_refl _, Nat.le_refl _⟩ w ?_
    rintro v h2 ⟨r1, rfl, w⟩
    refine w_callS (As := [.int r1]) (st := []) dX7_readWord_19 mt_X7_isLetter g_581 g_582 rfl rfl (Nat.le_of_ble_eq_true rfl) (Nat.le_refl _) ⟨Nat.le_refl _, Nat.le_refl _⟩ w ?_
    rintro v h4 ⟨r3, rfl, w⟩
    refine w_if_eq (tgt := 57) dX7_readWord_22 rfl (fun c => ?_) (fun c => ?_)
    · rw [if_pos c] at w
      exact w
    · rw [if_neg c] at w
      refine w_aload_n dX7_readWord_25 rfl ?_
      refine w_aload_n dX7_readWord_26 rfl ?_
      obtain ⟨e1, w⟩ := w
      refine w_getl dX7_readWord_27 lk_RX7_37 e1 rfl ?_
      refine w_aload_n dX7_readWord_30 rfl ?_
      refine w_aload_n dX7_readWord_31 rfl ?_
      refine w_geti dX7_readWord_32 lk_RX7_19 e1 rfl ?_
      refine w_callV (As := [.int (gi h4 l0 2)]) (st := [.long (gj h4 l0 6), .ref l0]) dX7_readWord_35 mt_X7_signAt g_577 g_579 g_0 rfl e1 rfl rfl (Nat.le_of_ble_eq_true rfl) (Nat.le_refl _) ⟨Nat.le_refl _, Nat.le_refl _⟩ w ?_
      rintro v h6 ⟨r5, rfl, w⟩
      refine w_callS (As := [.long (gj h4 l0 6), .int r5]) (st := [.ref l0]) dX7_readWord_38 mt_X9_withLetter g_588 g_589 rfl rfl (Nat.le_of_ble_eq_true rfl) (Nat.le_refl _) ⟨Nat.le_refl _, Nat.le_refl _⟩ w ?_
      rintro v h8 ⟨r7, rfl, w⟩
      obtain ⟨e1, w⟩ := w
      refine w_putl dX7_readWord_41 lk_RX7_37 e1 rfl (Or.inl rfl) ?_
      have w := w _ rfl
      refine w_aload_n dX7_readWord_44 rfl ?_
      refine w_dup dX7_readWord_45 rfl ?_
      refine w_geti dX7_readWord_46 lk_RX7_19 e1 rfl ?_
      refine w_iconst (v := 1) dX7_readWord_49 rfl ?_
      refine w_iadd dX7_readWord_50 ?_
      refine w_puti dX7_readWord_51 lk_RX7_19 e1 rfl (Or.inl rfl) ?_
      have w := w _ rfl
      refine w_goto (tgt := 0) dX7_readWord_54 rfl ?_
      exact w
set_option maxRecDepth 20000 in
set_option maxHeartbeats 4000000 in
theorem x_X7_readWord_57 {G : pm_G} {d : Nat} {post : pm_PT} {h : pm_H} {l0 : Nat} (w :
    (h.1[l0]? = some (0, 7)) ∧
    if ((gi h l0 2) - (gi h l0 4)) ≤ 8 then (
      ∀ h1 : pm_H, h1 = si h l0 3 1 →
      if (gi h1 l0 3) = 1 then (
        cp G d m_X9_of [.long (gj h1 l0 6)] h1 fun r2 h3 =>
        (h3.1[l0]? = some (0, 7)) ∧
        ∀ h4 : pm_H, h4 = sp h3 l0 5 r2 →
        post none h4
      ) else (
        ∀ h5 : pm_H, h5 = sp h1 l0 5 1000 →
        post none h5
      )
    ) else (
      ∀ h6 : pm_H, h6 = si h l0 3 4 →
      if (gi h6 l0 3) = 1 then (
        cp G d m_X9_of [.long (gj h6 l0 6)] h6 fun r7 h8 =>
        (h8.1[l0]? = some (0, 7)) ∧
        ∀ h9 : pm_H, h9 = sp h8 l0 5 r7 →
        post none h9
      ) else (
        ∀ h10 : pm_H, h10 = sp h6 l0 5 1000 →
        post none h10
      )
    )) :
    Wp G (m_X7_readWord, d + 1, 0, 0, post) (0, 0) 57 [.ref l0] [] h := by
  refine w_aload_n dX7_readWord_57 rfl ?_
  refine w_aload_n dX7_readWord_58 rfl ?_
  obtain ⟨e1, w⟩ := w
  refine w_geti dX7_readWord_59 lk_RX7_19 e1 rfl ?_
  refine w_aload_n dX7_readWord_62 rfl ?_
  refine w_geti dX7_readWord_63 lk_RX7_25 e1 rfl ?_
  refine w_isub dX7_readWord_66 ?_
  refine w_bipush (v := 8) dX7_readWord_67 rfl ?_
  refine w_ic_le (tgt := 76) dX7_readWord_69 rfl (fun c => ?_) (fun c => ?_)
  · rw [if_pos c] at w
    refine w_iconst (v := 1) dX7_readWord_76 rfl ?_
    refine w_puti dX7_readWord_77 lk_RX7_22 e1 rfl (Or.inl rfl) ?_
    have w := w _ rfl
    refine w_aload_n dX7_readWord_80 rfl ?_
    refine w_aload_n dX7_readWord_81 rfl ?_
    refine w_geti dX7_readWord_82 lk_RX7_22 e1 rfl ?_
    refine w_iconst (v := 1) dX7_readWord_85 rfl ?_
    refine w_ic_ne (tgt := 99) dX7_readWord_86 rfl (fun c => ?_) (fun c => ?_)
    · rw [if_neg c] at w
      refine w_getw (i := 0) dX7_readWord_99 rfl g_167 ?_
      refine w_putp dX7_readWord_102 lk_RX7_34 e1 rfl (Or.inl rfl) ?_
      have w := w _ rfl
      exact w_return dX7_readWord_105 rfl ⟨Nat.le_refl _, Nat.le_refl _⟩ w
    · rw [if_pos c] at w
      refine w_aload_n dX7_readWord_89 rfl ?_
      refine w_getl dX7_readWord_90 lk_RX7_37 e1 rfl ?_
      refine w_callS (As := [.long (gj (si h l0 3 1) l0 6)]) (st := [.ref l0]) dX7_readWord_93 mt_X9_of g_592 g_593 rfl rfl (Nat.le_of_ble_eq_true rfl) (Nat.le_refl _) ⟨Nat.le_refl _, Nat.le_refl _⟩ w ?_
      rintro v h3 ⟨r2, rfl, w⟩
      refine w_goto (tgt := 102) dX7_readWord_96 rfl ?_
      obtain ⟨e1, w⟩ := w
      refine w_putp dX7_readWord_102 lk_RX7_34 e1 rfl (Or.inl rfl) ?_
      have w := w _ rfl
      exact w_return dX7_readWord_105 rfl ⟨Nat.le_refl _, Nat.le_refl _⟩ w
  · rw [if_neg c] at w
    refine w_iconst (v := 4) dX7_readWord_72 rfl ?_
    refine w_goto (tgt := 77) dX7_readWord_73 rfl ?_
    refine w_puti dX7_readWord_77 lk_RX7_22 e1 rfl (Or.inl rfl) ?_
    have w := w _ rfl
    refine w_aload_n dX7_readWord_80 rfl ?_
    refine w_aload_n dX7_readWord_81 rfl ?_
    refine w_geti dX7_readWord_82 lk_RX7_22 e1 rfl ?_
    refine w_iconst (v := 1) dX7_readWord_85 rfl ?_
    refine w_ic_ne (tgt := 99) dX7_readWord_86 rfl (fun c => ?_) (fun c => ?_)
    · rw [if_neg c] at w
      refine w_getw (i := 0) dX7_readWord_99 rfl g_167 ?_
      refine w_putp dX7_readWord_102 lk_RX7_34 e1 rfl (Or.inl rfl) ?_
      have w := w _ rfl
      exact w_return dX7_readWord_105 rfl ⟨Nat.le_refl _, Nat.le_refl _⟩ w
    · rw [if_pos c] at w
      refine w_aload_n dX7_readWord_89 rfl ?_
      refine w_getl dX7_readWord_90 lk_RX7_37 e1 rfl ?_
      refine w_callS (As := [.long (gj (si h l0 3 4) l0 6)]) (st := [.ref l0]) dX7_readWord_93 mt_X9_of g_592 g_593 rfl rfl (Nat.le_of_ble_eq_true rfl) (Nat.le_refl _) ⟨Nat.le_refl _, Nat.le_refl _⟩ w ?_
      rintro v h8 ⟨r7, rfl, w⟩
      refine w_goto (tgt := 102) dX7_readWord_96 rfl ?_
      obtain ⟨e1, w⟩ := w
      refine w_putp dX7_readWord_102 lk_RX7_34 e1 rfl (Or.inl rfl) ?_
      have w := w _ rfl
      exact w_return dX7_readWord_105 rfl ⟨Nat.le_refl _, Nat.le_refl _⟩ w
set_option maxRecDepth 20000 in
set_option maxHeartbeats 4000000 in
theorem x_X7_readNumber {G : pm_G} {d : Nat} {post : pm_PT} {h : pm_H} {l0 : Nat} (w :
    Wp G (m_X7_readNumber, d + 1, 0, 0, post) (0, 0) 2 [.ref l0, .int 0] [] h) :
    Wp G (m_X7_readNumber, d + 1, 0, 0, post) (0, 0) 0 [.ref l0, .null] [] h := by
  refine w_iconst (v := 0) dX7_readNumber_0 rfl ?_
  refine v_istore_n (l' := [.ref l0, .int 0]) dX7_readNumber_1 (Nat.le_of_ble_eq_true rfl) rfl ?_
  exact w
set_option maxRecDepth 20000 in
set_option maxHeartbeats 4000000 in
theorem x_X7_readNumber_2 {G : pm_G} {d : Nat} {post : pm_PT} {h : pm_H} {l0 : Nat} {l1 : Int32} (w :
    (h.1[l0]? = some (0, 7)) ∧
    if (gi h l0 1) ≤ (gi h l0 2) then (
      Wp G (m_X7_readNumber, d + 1, 0, 0, post) (0, 0) 57 [.ref l0, .int l1] [] h
    ) else (
      ci G d m_X7_signAt [.ref l0, .int (gi h l0 2)] h fun r1 h2 =>
      ci G d m_X7_isDigit [.int r1] h2 fun r3 h4 =>
      if r3 = 0 then (
        Wp G (m_X7_readNumber, d + 1, 0, 0, post) (0, 0) 57 [.ref l0, .int l1] [] h4
      ) else (
        (h4.1[l0]? = some (0, 7)) ∧
        ci G d m_X7_signAt [.ref l0, .int (gi h4 l0 2)] h4 fun r5 h6 =>
        (h6.1[l0]? = some (0, 7)) ∧
        ∀ h7 : pm_H, h7 = si h6 l0 2 ((gi h6 l0 2) + 1) →
        Wp G (m_X7_readNumber, d + 1, 0, 0, post) (0, 0) 2 [.ref l0, .int (((l1 * 10) + r5) - 48)] [] h7
      )
    )) :
    Wp G (m_X7_readNumber, d + 1, 0, 0, post) (0, 0) 2 [.ref l0, .int l1] [] h := by
  refine w_aload_n dX7_readNumber_2 rfl ?_
  obtain ⟨e1, w⟩ := w
  refine w_geti dX7_readNumber_3 lk_RX7_19 e1 rfl ?_
  refine w_aload_n dX7_readNumber_6 rfl ?_
  refine w_geti dX7_readNumber_7 lk_RX7_15 e1 rfl ?_
  refine w_ic_ge (tgt := 57) dX7_readNumber_10 rfl (fun c => ?_) (fun c => ?_)
  · rw [if_pos c] at w
    exact w
  · rw [if_neg c] at w
    refine w_aload_n dX7_readNumber_13 rfl ?_
    refine w_aload_n dX7_readNumber_14 rfl ?_
    refine w_geti dX7_readNumber_15 lk_RX7_19 e1 rfl ?_
    refine w_callV (As := [.int (gi h l0 2)]) (st := []) dX7_readNumber_18 mt_X7_signAt g_577 g_579 g_0 rfl e1 rfl rfl (Nat.le_of_ble_eq_true rfl) (Nat.le_refl _) ⟨Nat.le_refl _, Nat.le_refl _⟩ w ?_
    rintro v h2 ⟨r1, rfl, w⟩
    refine w_callS (As := [.int r1]) (st := []) dX7_readNumber_21 mt_X7_isDigit g_598 g_599 rfl rfl (Nat.le_of_ble_eq_true rfl) (Nat.le_refl _) ⟨Nat.le_refl _, Nat.le_refl _⟩ w ?_
    rintro v h4 ⟨r3, rfl, w⟩
    refine w_if_eq (tgt := 57) dX7_readNumber_24 rfl (fun c => ?_) (fun c => ?_)
    · rw [if_pos c] at w
      exact w
    · rw [if_neg c] at w
      refine w_iload_n dX7_readNumber_27 rfl ?_
      refine w_bipush (v := 10) dX7_readNumber_28 rfl ?_
      refine w_imul dX7_readNumber_30 ?_
      refine w_aload_n dX7_readNumber_31 rfl ?_
      refine w_aload_n dX7_readNumber_32 rfl ?_
      obtain ⟨e1, w⟩ := w
      refine w_geti dX7_readNumber_33 lk_RX7_19 e1 rfl ?_
      refine w_callV (As := [.int (gi h4 l0 2)]) (st := [.int (l1 * 10)]) dX7_readNumber_36 mt_X7_signAt g_577 g_579 g_0 rfl e1 rfl rfl (Nat.le_of_ble_eq_true rfl) (Nat.le_refl _) ⟨Nat.le_refl _, Nat.le_refl _⟩ w ?_
      rintro v h6 ⟨r5, rfl, w⟩
      refine w_iadd dX7_readNumber_39 ?_
      refine w_bipush (v := 48) dX7_readNumber_40 rfl ?_
      refine w_isub dX7_readNumber_42 ?_
      refine v_istore_n (l' := [.ref l0, .int (((l1 * 10) + r5) - 48)]) dX7_readNumber_43 (Nat.le_of_ble_eq_true rfl) rfl ?_
      refine w_aload_n dX7_readNumber_44 rfl ?_
      refine w_dup dX7_readNumber_45 rfl ?_
      obtain ⟨e1, w⟩ := w
      refine w_geti dX7_readNumber_46 lk_RX7_19 e1 rfl ?_
      refine w_iconst (v := 1) dX7_readNumber_49 rfl ?_
      refine w_iadd dX7_readNumber_50 ?_
      refine w_puti dX7_readNumber_51 lk_RX7_19 e1 rfl (Or.inl rfl) ?_
      have w := w _ rfl
      refine w_goto (tgt := 2) dX7_readNumber_54 rfl ?_
      exact w
set_option maxRecDepth 20000 in
set_option maxHeartbeats 4000000 in
theorem x_X7_readNumber_57 {G : pm_G} {d : Nat} {post : pm_PT} {h : pm_H} {l0 : Nat} {l1 : Int32} (w :
    (h.1[l0]? = some (0, 7)) ∧
    if ((gi h l0 2) - (gi h l0 4)) ≤ 4 then (
      ∀ h1 : pm_H, h1 = si h l0 3 2 →
      if (gi h1 l0 3) = 2 then (
        ∀ h2 : pm_H, h2 = si h1 l0 7 l1 →
        post none h2
      ) else (
        ∀ h3 : pm_H, h3 = si h1 l0 7 (-1) →
        post none h3
      )
    ) else (
      ∀ h4 : pm_H, h4 = si h l0 3 4 →
      if (gi h4 l0 3) = 2 then (
        ∀ h5 : pm_H, h5 = si h4 l0 7 l1 →
        post none h5
      ) else (
        ∀ h6 : pm_H, h6 = si h4 l0 7 (-1) →
        post none h6
      )
    )) :
    Wp G (m_X7_readNumber, d + 1, 0, 0, post) (0, 0) 57 [.ref l0, .int l1] [] h := by
  refine w_aload_n dX7_readNumber_57 rfl ?_
  refine w_aload_n dX7_readNumber_58 rfl ?_
  obtain ⟨e1, w⟩ := w
  refine w_geti dX7_readNumber_59 lk_RX7_19 e1 rfl ?_
  refine w_aload_n dX7_readNumber_62 rfl ?_
  refine w_geti dX7_readNumber_63 lk_RX7_25 e1 rfl ?_
  refine w_isub dX7_readNumber_66 ?_
  refine w_iconst (v := 4) dX7_readNumber_67 rfl ?_
  refine w_ic_le (tgt := 75) dX7_readNumber_68 rfl (fun c => ?_) (fun c => ?_)
  · rw [if_pos c] at w
    refine w_iconst (v := 2) dX7_readNumber_75 rfl ?_
    refine w_puti dX7_readNumber_76 lk_RX7_22 e1 rfl (Or.inl rfl) ?_
    have w := w _ rfl
    refine w_aload_n dX7_readNumber_79 rfl ?_
    refine w_aload_n dX7_readNumber_80 rfl ?_
    refine w_geti dX7_readNumber_81 lk_RX7_22 e1 rfl ?_
    refine w_iconst (v := 2) dX7_readNumber_84 rfl ?_
    refine w_ic_ne (tgt := 92) dX7_readNumber_85 rfl (fun c => ?_) (fun c => ?_)
    · rw [if_neg c] at w
      refine w_iconst (v := (-1)) dX7_readNumber_92 rfl ?_
      refine w_puti dX7_readNumber_93 lk_RX7_41 e1 rfl (Or.inl rfl) ?_
      have w := w _ rfl
      exact w_return dX7_readNumber_96 rfl ⟨Nat.le_refl _, Nat.le_refl _⟩ w
    · rw [if_pos c] at w
      refine w_iload_n dX7_readNumber_88 rfl ?_
      refine w_goto (tgt := 93) dX7_readNumber_89 rfl ?_
      refine w_puti dX7_readNumber_93 lk_RX7_41 e1 rfl (Or.inl rfl) ?_
      have w := w _ rfl
      exact w_return dX7_readNumber_96 rfl ⟨Nat.le_refl _, Nat.le_refl _⟩ w
  · rw [if_neg c] at w
    refine w_iconst (v := 4) dX7_readNumber_71 rfl ?_
    refine w_goto (tgt := 76) dX7_readNumber_72 rfl ?_
    refine w_puti dX7_readNumber_76 lk_RX7_22 e1 rfl (Or.inl rfl) ?_
    have w := w _ rfl
    refine w_aload_n dX7_readNumber_79 rfl ?_
    refine w_aload_n dX7_readNumber_80 rfl ?_
    refine w_geti dX7_readNumber_81 lk_RX7_22 e1 rfl ?_
    refine w_iconst (v := 2) dX7_readNumber_84 rfl ?_
    refine w_ic_ne (tgt := 92) dX7_readNumber_85 rfl (fun c => ?_) (fun c => ?_)
    · rw [if_neg c] at w
      refine w_iconst (v := (-1)) dX7_readNumber_92 rfl ?_
      refine w_puti dX7_readNumber_93 lk_RX7_41 e1 rfl (Or.inl rfl) ?_
      have w := w _ rfl
      exact w_return dX7_readNumber_96 rfl ⟨Nat.le_refl _, Nat.le_refl _⟩ w
    · rw [if_pos c] at w
      refine w_iload_n dX7_readNumber_88 rfl ?_
      refine w_goto (tgt := 93) dX7_readNumber_89 rfl ?_
      refine w_puti dX7_readNumber_93 lk_RX7_41 e1 rfl (Or.inl rfl) ?_
      have w := w _ rfl
      exact w_return dX7_readNumber_96 rfl ⟨Nat.le_refl _, Nat.le_refl _⟩ w
set_option maxRecDepth 20000 in
set_option maxHeartbeats 4000000 in
theorem x_X7_readSign {G : pm_G} {d : Nat} {post : pm_PT} {h : pm_H} {l0 : Nat} {l1 : Int32} (w :
    (h.1[l0]? = some (0, 7)) ∧
    ∀ h1 : pm_H, h1 = si h l0 2 ((gi h l0 2) + 1) →
    if l1 = 40 then (
      Wp G (m_X7_readSign, d + 1, 0, 0, post) (0, 0) 58 [.ref l0, .int l1, .null] [] h1
    ) else (
      if l1 = 41 then (
        Wp G (m_X7_readSign, d + 1, 0, 0, post) (0, 0) 58 [.ref l0, .int l1, .null] [] h1
      ) else (
        if l1 = 60 then (
          Wp G (m_X7_readSign, d + 1, 0, 0, post) (0, 0) 58 [.ref l0, .int l1, .null] [] h1
        ) else (
          if l1 = 61 then (
            Wp G (m_X7_readSign, d + 1, 0, 0, post) (0, 0) 58 [.ref l0, .int l1, .null] [] h1
          ) else (
            if l1 = 43 then (
              Wp G (m_X7_readSign, d + 1, 0, 0, post) (0, 0) 58 [.ref l0, .int l1, .null] [] h1
            ) else (
              if l1 = 45 then (
                Wp G (m_X7_readSign, d + 1, 0, 0, post) (0, 0) 58 [.ref l0, .int l1, .null] [] h1
              ) else (
                if l1 = 42 then (
                  Wp G (m_X7_readSign, d + 1, 0, 0, post) (0, 0) 58 [.ref l0, .int l1, .null] [] h1
                ) else (
                  if l1 = 59 then (
                    Wp G (m_X7_readSign, d + 1, 0, 0, post) (0, 0) 58 [.ref l0, .int l1, .null] [] h1
                  ) else (
                    ∀ h2 : pm_H, h2 = si h1 l0 3 4 →
                    ∀ h3 : pm_H, h3 = si h2 l0 8 (-1) →
                    post none h3
                  )
                )
              )
            )
          )
        )
      )
    )) :
    Wp G (m_X7_readSign, d + 1, 0, 0, post) (0, 0) 0 [.ref l0, .int l1, .null] [] h := by
  refine w_aload_n dX7_readSign_0 rfl ?_
  refine w_dup dX7_readSign_1 rfl ?_
  obtain ⟨e1, w⟩ := w
  refine w_geti dX7_readSign_2 lk_RX7_19 e1 rfl ?_
  refine w_iconst (v := 1) dX7_readSign_5 rfl ?_
  refine w_iadd dX7_readSign_6 ?_
  refine w_puti dX7_readSign_7 lk_RX7_19 e1 rfl (Or.inl rfl) ?_
  have w := w _ rfl
  refine w_iload_n dX7_readSign_10 rfl ?_
  refine w_bipush (v := 40) dX7_readSign_11 rfl ?_
  refine w_ic_eq (tgt := 58) dX7_readSign_13 rfl (fun c => ?_) (fun c => ?_)
  · rw [if_pos c] at w
    exact w
  · rw [if_neg c] at w
    refine w_iload_n dX7_readSign_16 rfl ?_
    refine w_bipush (v := 41) dX7_readSign_17 rfl ?_
    refine w_ic_eq (tgt := 58) dX7_readSign_19 rfl (fun c => ?_) (fun c => ?_)
    · rw [if_pos c] at w
      exact w
    · rw [if_neg c] at w
      refine w_iload_n dX7_readSign_22 rfl ?_
      refine w_bipush (v := 60) dX7_readSign_23 rfl ?_
      refine w_ic_eq (tgt := 58) dX7_readSign_25 rfl (fun c => ?_) (fun c => ?_)
      · rw [if_pos c] at w
        exact w
      · rw [if_neg c] at w
        refine w_iload_n dX7_readSign_28 rfl ?_
        refine w_bipush (v := 61) dX7_readSign_29 rfl ?_
        refine w_ic_eq (tgt := 58) dX7_readSign_31 rfl (fun c => ?_) (fun c => ?_)
        · rw [if_pos c] at w
          exact w
        · rw [if_neg c] at w
          refine w_iload_n dX7_readSign_34 rfl ?_
          refine w_bipush (v := 43) dX7_readSign_35 rfl ?_
          refine w_ic_eq (tgt := 58) dX7_readSign_37 rfl (fun c => ?_) (fun c => ?_)
          · rw [if_pos c] at w
            exact w
          · rw [if_neg c] at w
            refine w_iload_n dX7_readSign_40 rfl ?_
            refine w_bipush (v := 45) dX7_readSign_41 rfl ?_
            refine w_ic_eq (tgt := 58) dX7_readSign_43 rfl (fun c => ?_) (fun c => ?_)
            · rw [if_pos c] at w
              exact w
            · rw [if_neg c] at w
              refine w_iload_n dX7_readSign_46 rfl ?_
              refine w_bipush (v := 42) dX7_readSign_47 rfl ?_
              refine w_ic_eq (tgt := 58) dX7_readSign_49 rfl (fun c => ?_) (fun c => ?_)
              · rw [if_pos c] at w
                exact w
              · rw [if_neg c] at w
                refine w_iload_n dX7_readSign_52 rfl ?_
                refine w_bipush (v := 59) dX7_readSign_53 rfl ?_
                refine w_ic_ne (tgt := 62) dX7_readSign_55 rfl (fun c => ?_) (fun c => ?_)
                · rw [if_neg c] at w
                  refine w_iconst (v := 0) dX7_readSign_62 rfl ?_
                  refine v_istore_n (l' := [.ref l0, .int l1, .int 0]) dX7_readSign_63 (Nat.le_of_ble_eq_true rfl) rfl ?_
                  refine w_aload_n dX7_readSign_64 rfl ?_
                  refine w_iload_n dX7_readSign_65 rfl ?_
                  refine w_if_eq (tgt := 73) dX7_readSign_66 rfl (fun c => ?_) (fun c => ?_)
                  · refine w_iconst (v := 4) dX7_readSign_73 rfl ?_
                    refine w_puti dX7_readSign_74 lk_RX7_22 e1 rfl (Or.inl rfl) ?_
                    have w := w _ rfl
                    refine w_aload_n dX7_readSign_77 rfl ?_
                    refine w_iload_n dX7_readSign_78 rfl ?_
                    refine w_if_eq (tgt := 86) dX7_readSign_79 rfl (fun c => ?_) (fun c => ?_)
                    · refine w_iconst (v := (-1)) dX7_readSign_86 rfl ?_
                      refine w_puti dX7_readSign_87 lk_RX7_44 e1 rfl (Or.inl rfl) ?_
                      have w := w _ rfl
                      exact w_return dX7_readSign_90 rfl ⟨Nat.le_refl _, Nat.le_refl _⟩ w
                    · exact absurd c (by decide)
                  · exact absurd c (by decide)
                · rw [if_pos c] at w
                  exact w
set_option maxRecDepth 20000 in
set_option maxHeartbeats 4000000 in
theorem x_X7_readSign_58 {G : pm_G} {d : Nat} {post : pm_PT} {h : pm_H} {l0 : Nat} {l1 : Int32} (w :
    (h.1[l0]? = some (0, 7)) ∧
    ∀ h1 : pm_H, h1 = si h l0 3 3 →
    ∀ h2 : pm_H, h2 = si h1 l0 8 l1 →
    post none h2) :
    Wp G (m_X7_readSign, d + 1, 0, 0, post) (0, 0) 58 [.ref l0, .int l1, .null] [] h := by
  refine w_iconst (v := 1) dX7_readSign_58 rfl ?_
  refine w_goto (tgt := 63) dX7_readSign_59 rfl ?_
  refine v_istore_n (l' := [.ref l0, .int l1, .int 1]) dX7_readSign_63 (Nat.le_of_ble_eq_true rfl) rfl ?_
  refine w_aload_n dX7_readSign_64 rfl ?_
  refine w_iload_n dX7_readSign_65 rfl ?_
  refine w_if_eq (tgt := 73) dX7_readSign_66 rfl (fun c => ?_) (fun c => ?_)
  · exact absurd c (by decide)
  · refine w_iconst (v := 3) dX7_readSign_69 rfl ?_
    refine w_goto (tgt := 74) dX7_readSign_70 rfl ?_
    obtain ⟨e1, w⟩ := w
    refine w_puti dX7_readSign_74 lk_RX7_22 e1 rfl (Or.inl rfl) ?_
    have w := w _ rfl
    refine w_aload_n dX7_readSign_77 rfl ?_
    refine w_iload_n dX7_readSign_78 rfl ?_
    refine w_if_eq (tgt := 86) dX7_readSign_79 rfl (fun c => ?_) (fun c => ?_)
    · exact absurd c (by decide)
    · refine w_iload_n dX7_readSign_82 rfl ?_
      refine w_goto (tgt := 87) dX7_readSign_83 rfl ?_
      refine w_puti dX7_readSign_87 lk_RX7_44 e1 rfl (Or.inl rfl) ?_
      have w := w _ rfl
      exact w_return dX7_readSign_90 rfl ⟨Nat.le_refl _, Nat.le_refl _⟩ w
set_option maxRecDepth 20000 in
set_option maxHeartbeats 4000000 in
theorem x_X7_signAt {G : pm_G} {d : Nat} {post : pm_PT} {h : pm_H} {l0 : Nat} {l1 : Int32} (w :
    if l1 < 0 then (
      post (some (.int (-1))) h
    ) else (
      (h.1[l0]? = some (0, 7)) ∧
      if (gi h l0 1) ≤ l1 then (
        post (some (.int (-1))) h
      ) else (
        ∃ n1 : Nat, h.1[gp h l0 0]? = some (3, n1) ∧
        if (Int32.ofNat n1) ≤ l1 then (
          post (some (.int (-1))) h
        ) else (
          (vp_in l1 n1) ∧
          post (some (.int (gi h (gp h l0 0) (l1 : Int32).toNatClampNeg))) h
        )
      )
    )) :
    Wp G (m_X7_signAt, d + 1, 0, 0, post) (0, 0) 0 [.ref l0, .int l1] [] h := by
  refine w_iload_n dX7_signAt_0 rfl ?_
  refine w_if_lt (tgt := 30) dX7_signAt_1 rfl (fun c => ?_) (fun c => ?_)
  · rw [if_pos c] at w
    refine w_iconst (v := (-1)) dX7_signAt_30 rfl ?_
    exact w_ireturn dX7_signAt_31 rfl rfl ⟨Nat.le_refl _, Nat.le_refl _⟩ w
  · rw [if_neg c] at w
    refine w_iload_n dX7_signAt_4 rfl ?_
    refine w_aload_n dX7_signAt_5 rfl ?_
    obtain ⟨e1, w⟩ := w
    refine w_geti dX7_signAt_6 lk_RX7_15 e1 rfl ?_
    refine w_ic_ge (tgt := 30) dX7_signAt_9 rfl (fun c => ?_) (fun c => ?_)
    · rw [if_pos c] at w
      refine w_iconst (v := (-1)) dX7_signAt_30 rfl ?_
      exact w_ireturn dX7_signAt_31 rfl rfl ⟨Nat.le_refl _, Nat.le_refl _⟩ w
    · rw [if_neg c] at w
      refine w_iload_n dX7_signAt_12 rfl ?_
      refine w_aload_n dX7_signAt_13 rfl ?_
      refine w_getp dX7_signAt_14 lk_RX7_11 e1 rfl ?_
      obtain ⟨n1, ln1, w⟩ := w
      refine w_alen dX7_signAt_17 ln1 (by decide) rfl ?_
      refine w_ic_ge (tgt := 30) dX7_signAt_18 rfl (fun c => ?_) (fun c => ?_)
      · rw [if_pos c] at w
        refine w_iconst (v := (-1)) dX7_signAt_30 rfl ?_
        exact w_ireturn dX7_signAt_31 rfl rfl ⟨Nat.le_refl _, Nat.le_refl _⟩ w
      · rw [if_neg c] at w
        refine w_aload_n dX7_signAt_21 rfl ?_
        refine w_getp dX7_signAt_22 lk_RX7_11 e1 rfl ?_
        refine w_iload_n dX7_signAt_25 rfl ?_
        obtain ⟨e3, w⟩ := w
        refine w_bald dX7_signAt_26 ln1 e3 ?_
        refine w_goto (tgt := 31) dX7_signAt_27 rfl ?_
        exact w_ireturn dX7_signAt_31 rfl rfl ⟨Nat.le_refl _, Nat.le_refl _⟩ w
set_option maxRecDepth 20000 in
set_option maxHeartbeats 4000000 in
theorem x_X7_isLetter {G : pm_G} {d : Nat} {post : pm_PT} {h : pm_H} {l0 : Int32} (w :
    if l0 < 97 then (
      post (some (.int 0)) h
    ) else (
      if 122 < l0 then (
        post (some (.int 0)) h
      ) else (
        post (some (.int 1)) h
      )
    )) :
    Wp G (m_X7_isLetter, d + 1, 0, 0, post) (0, 0) 0 [.int l0] [] h := by
  refine w_iload_n dX7_isLetter_0 rfl ?_
  refine w_bipush (v := 97) dX7_isLetter_1 rfl ?_
  refine w_ic_lt (tgt := 16) dX7_isLetter_3 rfl (fun c => ?_) (fun c => ?_)
  · rw [if_pos c] at w
    refine w_iconst (v := 0) dX7_isLetter_16 rfl ?_
    exact w_ireturn dX7_isLetter_17 rfl rfl ⟨Nat.le_refl _, Nat.le_refl _⟩ w
  · rw [if_neg c] at w
    refine w_iload_n dX7_isLetter_6 rfl ?_
    refine w_bipush (v := 122) dX7_isLetter_7 rfl ?_
    refine w_ic_gt (tgt := 16) dX7_isLetter_9 rfl (fun c => ?_) (fun c => ?_)
    · rw [if_pos c] at w
      refine w_iconst (v := 0) dX7_isLetter_16 rfl ?_
      exact w_ireturn dX7_isLetter_17 rfl rfl ⟨Nat.le_refl _, Nat.le_refl _⟩ w
    · rw [if_neg c] at w
      refine w_iconst (v := 1) dX7_isLetter_12 rfl ?_
      refine w_goto (tgt := 17) dX7_isLetter_13 rfl ?_
      exact w_ireturn dX7_isLetter_17 rfl rfl ⟨Nat.le_refl _, Nat.le_refl _⟩ w
set_option maxRecDepth 20000 in
set_option maxHeartbeats 4000000 in
theorem x_X7_isDigit {G : pm_G} {d : Nat} {post : pm_PT} {h : pm_H} {l0 : Int32} (w :
    if l0 < 48 then (
      post (some (.int 0)) h
    ) else (
      if 57 < l0 then (
        post (some (.int 0)) h
      ) else (
        post (some (.int 1)) h
      )
    )) :
    Wp G (m_X7_isDigit, d + 1, 0, 0, post) (0, 0) 0 [.int l0] [] h := by
  refine w_iload_n dX7_isDigit_0 rfl ?_
  refine w_bipush (v := 48) dX7_isDigit_1 rfl ?_
  refine w_ic_lt (tgt := 16) dX7_isDigit_3 rfl (fun c => ?_) (fun c => ?_)
  · rw [if_pos c] at w
    refine w_iconst (v := 0) dX7_isDigit_16 rfl ?_
    exact w_ireturn dX7_isDigit_17 rfl rfl ⟨Nat.le_refl _, Nat.le_refl _⟩ w
  · rw [if_neg c] at w
    refine w_iload_n dX7_isDigit_6 rfl ?_
    refine w_bipush (v := 57) dX7_isDigit_7 rfl ?_
    refine w_ic_gt (tgt := 16) dX7_isDigit_9 rfl (fun c => ?_) (fun c => ?_)
    · rw [if_pos c] at w
      refine w_iconst (v := 0) dX7_isDigit_16 rfl ?_
      exact w_ireturn dX7_isDigit_17 rfl rfl ⟨Nat.le_refl _, Nat.le_refl _⟩ w
    · rw [if_neg c] at w
      refine w_iconst (v := 1) dX7_isDigit_12 rfl ?_
      refine w_goto (tgt := 17) dX7_isDigit_13 rfl ?_
      exact w_ireturn dX7_isDigit_17 rfl rfl ⟨Nat.le_refl _, Nat.le_refl _⟩ w
