set_option linter.all false
set_option maxRecDepth 20000 in
set_option maxHeartbeats 4000000 in
theorem x_X12_sifts {G : pm_G} {d : Nat} {post : pm_PT} {h : pm_H} {l0 : Nat} {l1 : Int32} {l2 : Int32} (w :
    (h.1[l0]? = some (0, 11)) ∧
    ci G d m_X12_nodeOf [.ref l0, .int l1, .int l2, .int 3] h fun r1 h2 =>
    (h2.1[l0]? = some (0, 11)) ∧
    ci G d m_X12_nodeOf [.ref l0, .int l1, .int l2, .int 1] h2 fun r3 h4 =>
    if r3 ≤ r1 then (
      post none h4
    ) else (
      (h4.1[l0]? = some (0, 11)) ∧
      ci G d m_X12_isLeaf [.ref l0, .int l1, .int l2] h4 fun r5 h6 =>
      if r5 = 0 then (
        (h6.1[l0]? = some (0, 11)) ∧
        ci G d m_X12_nodeOf [.ref l0, .int l1, .int l2, .int 6] h6 fun r7 h8 =>
        (h8.1[l0]? = some (0, 11)) ∧
        ci G d m_X12_nodeOf [.ref l0, .int l1, .int l2, .int 7] h8 fun r9 h10 =>
        if r7 < 0 then (
          (h10.1[l0]? = some (0, 11)) ∧
          cv G d m_X12_lays [.ref l0, .int l1, .int l2, .int 6, .int r9] h10 fun h12 =>
          (h12.1[l0]? = some (0, 11)) ∧
          cv G d m_X12_lays [.ref l0, .int l1, .int l2, .int 7, .int r7] h12 fun h14 =>
          Wp G (m_X12_sifts, d + 1, 0, 0, post) (0, 0) 94 [.ref l0, .int l1, .int l2, .int r9, .null] [] h14
        ) else (
          if r9 < 0 then (
            Wp G (m_X12_sifts, d + 1, 0, 0, post) (0, 0) 94 [.ref l0, .int l1, .int l2, .int r7, .null] [] h10
          ) else (
            (h10.1[l0]? = some (0, 11)) ∧
            ci G d m_X12_nodeOf [.ref l0, .int l1, .int r9, .int 2] h10 fun r15 h16 =>
            (h16.1[l0]? = some (0, 11)) ∧
            ci G d m_X12_nodeOf [.ref l0, .int l1, .int r7, .int 2] h16 fun r17 h18 =>
            if r17 ≤ r15 then (
              Wp G (m_X12_sifts, d + 1, 0, 0, post) (0, 0) 94 [.ref l0, .int l1, .int l2, .int r7, .null] [] h18
            ) else (
              (h18.1[l0]? = some (0, 11)) ∧
              cv G d m_X12_lays [.ref l0, .int l1, .int l2, .int 6, .int r9] h18 fun h20 =>
              (h20.1[l0]? = some (0, 11)) ∧
              cv G d m_X12_lays [.ref l0, .int l1, .int l2, .int 7, .int r7] h20 fun h22 =>
              Wp G (m_X12_sifts, d + 1, 0, 0, post) (0, 0) 94 [.ref l0, .int l1, .int l2, .int r9, .null] [] h22
            )
          )
        )
      ) else (
        post none h6
      )
    )) :
    Wp G (m_X12_sifts, d + 1, 0, 0, post) (0, 0) 0 [.ref l0, .int l1, .int l2, .null, .null] [] h := by
  refine w_aload_n dX12_sifts_0 rfl ?_
  refine w_iload_n dX12_sifts_1 rfl ?_
  refine w_iload_n dX12_sifts_2 rfl ?_
  refine w_iconst (v := 3) dX12_sifts_3 rfl ?_
  obtain ⟨e1, w⟩ := w
  refine w_callV (As := [.int l1, .int l2, .int 3]) (st := []) dX12_sifts_4 mt_X12_nodeOf g_1420 g_1422 g_59 rfl e1 rfl rfl (Nat.le_of_ble_eq_true rfl) (Nat.le_refl _) ⟨Nat.le_refl _, Nat.le_refl _⟩ w ?_
  rintro v h2 ⟨r1, rfl, w⟩
  refine w_aload_n dX12_sifts_7 rfl ?_
  refine w_iload_n dX12_sifts_8 rfl ?_
  refine w_iload_n dX12_sifts_9 rfl ?_
  refine w_iconst (v := 1) dX12_sifts_10 rfl ?_
  obtain ⟨e1, w⟩ := w
  refine w_callV (As := [.int l1, .int l2, .int 1]) (st := [.int r1]) dX12_sifts_11 mt_X12_nodeOf g_1420 g_1422 g_59 rfl e1 rfl rfl (Nat.le_of_ble_eq_true rfl) (Nat.le_refl _) ⟨Nat.le_refl _, Nat.le_refl _⟩ w ?_
  rintro v h4 ⟨r3, rfl, w⟩
  refine w_ic_ge (tgt := 151) dX12_sifts_14 rfl (fun c => ?_) (fun c => ?_)
  · rw [if_pos c] at w
    exact w_return dX12_sifts_151 rfl ⟨Nat.le_refl _, Nat.le_refl _⟩ w
  · rw [if_neg c] at w
    refine w_aload_n dX12_sifts_17 rfl ?_
    refine w_iload_n dX12_sifts_18 rfl ?_
    refine w_iload_n dX12_sifts_19 rfl ?_
    obtain ⟨e1, w⟩ := w
    refine w_callV (As := [.int l1, .int l2]) (st := []) dX12_sifts_20 mt_X12_isLeaf g_1471 g_1473 g_71 rfl e1 rfl rfl (Nat.le_of_ble_eq_true rfl) (Nat.le_refl _) ⟨Nat.le_refl _, Nat.le_refl _⟩ w ?_
    rintro v h6 ⟨r5, rfl, w⟩
    refine w_if_ne (tgt := 151) dX12_sifts_23 rfl (fun c => ?_) (fun c => ?_)
    · rw [if_neg c] at w
      exact w_return dX12_sifts_151 rfl ⟨Nat.le_refl _, Nat.le_refl _⟩ w
    · rw [if_pos c] at w
      refine w_aload_n dX12_sifts_26 rfl ?_
      refine w_iload_n dX12_sifts_27 rfl ?_
      refine w_iload_n dX12_sifts_28 rfl ?_
      refine w_bipush (v := 6) dX12_sifts_29 rfl ?_
      obtain ⟨e1, w⟩ := w
      refine w_callV (As := [.int l1, .int l2, .int 6]) (st := []) dX12_sifts_31 mt_X12_nodeOf g_1420 g_1422 g_59 rfl e1 rfl rfl (Nat.le_of_ble_eq_true rfl) (Nat.le_refl _) ⟨Nat.le_refl _, Nat.le_refl _⟩ w ?_
      rintro v h8 ⟨r7, rfl, w⟩
      refine v_istore_n (l' := [.ref l0, .int l1, .int l2, .int r7, .null]) dX12_sifts_34 (Nat.le_of_ble_eq_true rfl) rfl ?_
      refine w_aload_n dX12_sifts_35 rfl ?_
      refine w_iload_n dX12_sifts_36 rfl ?_
      refine w_iload_n dX12_sifts_37 rfl ?_
      refine w_bipush (v := 7) dX12_sifts_38 rfl ?_
      obtain ⟨e1, w⟩ := w
      refine w_callV (As := [.int l1, .int l2, .int 7]) (st := []) dX12_sifts_40 mt_X12_nodeOf g_1420 g_1422 g_59 rfl e1 rfl rfl (Nat.le_of_ble_eq_true rfl) (Nat.le_refl _) ⟨Nat.le_refl _, Nat.le_refl _⟩ w ?_
      rintro v h10 ⟨r9, rfl, w⟩
      refine v_istore (l' := [.ref l0, .int l1, .int l2, .int r7, .int r9]) dX12_sifts_43 (Nat.le_of_ble_eq_true rfl) rfl ?_
      refine w_iload_n dX12_sifts_45 rfl ?_
      refine w_if_lt (tgt := 72) dX12_sifts_46 rfl (fun c => ?_) (fun c => ?_)
      · rw [if_pos c] at w
        refine w_aload_n dX12_sifts_72 rfl ?_
        refine w_iload_n dX12_sifts_73 rfl ?_
        refine w_iload_n dX12_sifts_74 rfl ?_
        refine w_bipush (v := 6) dX12_sifts_75 rfl ?_
        refine w_iload dX12_sifts_77 rfl ?_
        obtain ⟨e1, w⟩ := w
        refine w_callV (As := [.int l1, .int l2, .int 6, .int r9]) (st := []) dX12_sifts_79 mt_X12_lays g_1432 g_1434 g_62 rfl e1 rfl rfl (Nat.le_of_ble_eq_true rfl) (Nat.le_refl _) ⟨Nat.le_refl _, Nat.le_refl _⟩ w ?_
        rintro v h12 ⟨rfl, w⟩
        refine w_aload_n dX12_sifts_82 rfl ?_
        refine w_iload_n dX12_sifts_83 rfl ?_
        refine w_iload_n dX12_sifts_84 rfl ?_
        refine w_bipush (v := 7) dX12_sifts_85 rfl ?_
        refine w_iload_n dX12_sifts_87 rfl ?_
        obtain ⟨e1, w⟩ := w
        refine w_callV (As := [.int l1, .int l2, .int 7, .int r7]) (st := []) dX12_sifts_88 mt_X12_lays g_1432 g_1434 g_62 rfl e1 rfl rfl (Nat.le_of_ble_eq_true rfl) (Nat.le_refl _) ⟨Nat.le_refl _, Nat.le_refl _⟩ w ?_
        rintro v h14 ⟨rfl, w⟩
        refine w_iload dX12_sifts_91 rfl ?_
        refine v_istore_n (l' := [.ref l0, .int l1, .int l2, .int r9, .int r9]) dX12_sifts_93 (Nat.le_of_ble_eq_true rfl) rfl ?_
        exact w_drop (l' := [.ref l0, .int l1, .int l2, .int r9, .null]) ⟨Or.inr rfl, Or.inr rfl, Or.inr rfl, Or.inr rfl, Or.inl rfl, trivial⟩ w
      · rw [if_neg c] at w
        refine w_iload dX12_sifts_49 rfl ?_
        refine w_if_lt (tgt := 94) dX12_sifts_51 rfl (fun c => ?_) (fun c => ?_)
        · rw [if_pos c] at w
          exact w_drop (l' := [.ref l0, .int l1, .int l2, .int r7, .null]) ⟨Or.inr rfl, Or.inr rfl, Or.inr rfl, Or.inr rfl, Or.inl rfl, trivial⟩ w
        · rw [if_neg c] at w
          refine w_aload_n dX12_sifts_54 rfl ?_
          refine w_iload_n dX12_sifts_55 rfl ?_
          refine w_iload dX12_sifts_56 rfl ?_
          refine w_iconst (v := 2) dX12_sifts_58 rfl ?_
          obtain ⟨e1, w⟩ := w
          refine w_callV (As := [.int l1, .int r9, .int 2]) (st := []) dX12_sifts_59 mt_X12_nodeOf g_1420 g_1422 g_59 rfl e1 rfl rfl (Nat.le_of_ble_eq_true rfl) (Nat.le_refl _) ⟨Nat.le_refl _, Nat.le_refl _⟩ w ?_
          rintro v h16 ⟨r15, rfl, w⟩
          refine w_aload_n dX12_sifts_62 rfl ?_
          refine w_iload_n dX12_sifts_63 rfl ?_
          refine w_iload_n dX12_sifts_64 rfl ?_
          refine w_iconst (v := 2) dX12_sifts_65 rfl ?_
          obtain ⟨e1, w⟩ := w
          refine w_callV (As := [.int l1, .int r7, .int 2]) (st := [.int r15]) dX12_sifts_66 mt_X12_nodeOf g_1420 g_1422 g_59 rfl e1 rfl rfl (Nat.le_of_ble_eq_true rfl) (Nat.le_refl _) ⟨Nat.le_refl _, Nat.le_refl _⟩ w ?_
          rintro v h18 ⟨r17, rfl, w⟩
          refine w_ic_ge (tgt := 94) dX12_sifts_69 rfl (fun c => ?_) (fun c => ?_)
          · rw [if_pos c] at w
            exact w_drop (l' := [.ref l0, .int l1, .int l2, .int r7, .null]) ⟨Or.inr rfl, Or.inr rfl, Or.inr rfl, Or.inr rfl, Or.inl rfl, trivial⟩ w
          · rw [if_neg c] at w
            refine w_aload_n dX12_sifts_72 rfl ?_
            refine w_iload_n dX12_sifts_73 rfl ?_
            refine w_iload_n dX12_sifts_74 rfl ?_
            refine w_bipush (v := 6) dX12_sifts_75 rfl ?_
            refine w_iload dX12_sifts_77 rfl ?_
            obtain ⟨e1, w⟩ := w
            refine w_callV (As := [.int l1, .int l2, .int 6, .int r9]) (st := []) dX12_sifts_79 mt_X12_lays g_1432 g_1434 g_62 rfl e1 rfl rfl (Nat.le_of_ble_eq_true rfl) (Nat.le_refl _) ⟨Nat.le_refl _, Nat.le_refl _⟩ w ?_
            rintro v h20 ⟨rfl, w⟩
            refine w_aload_n dX12_sifts_82 rfl ?_
            refine w_iload_n dX12_sifts_83 rfl ?_
            refine w_iload_n dX12_sifts_84 rfl ?_
            refine w_bipush (v := 7) dX12_sifts_85 rfl ?_
            refine w_iload_n dX12_sifts_87 rfl ?_
            obtain ⟨e1, w⟩ := w
            refine w_callV (As := [.int l1, .int l2, .int 7, .int r7]) (st := []) dX12_sifts_88 mt_X12_lays g_1432 g_1434 g_62 rfl e1 rfl rfl (Nat.le_of_ble_eq_true rfl) (Nat.le_refl _) ⟨Nat.le_refl _, Nat.le_refl _⟩ w ?_
            rintro v h22 ⟨rfl, w⟩
            refine w_iload dX12_sifts_91 rfl ?_
            refine v_istore_n (l' := [.ref l0, .int l1, .int l2, .int r9, .int r9]) dX12_sifts_93 (Nat.le_of_ble_eq_true rfl) rfl ?_
            exact w_drop (l' := [.ref l0, .int l1, .int l2, .int r9, .null]) ⟨Or.inr rfl, Or.inr rfl, Or.inr rfl, Or.inr rfl, Or.inl rfl, trivial⟩ w
set_option maxRecDepth 20000 in
set_option maxHeartbeats 4000000 in
theorem x_X12_sifts_94 {G : pm_G} {d : Nat} {post : pm_PT} {h : pm_H} {l0 : Nat} {l1 : Int32} {l2 : Int32} {l3 : Int32} (w :
    (h.1[l0]? = some (0, 11)) ∧
    cv G d m_X12_pours [.ref l0, .int l1, .int l3, .int l2] h fun h2 =>
    (h2.1[l0]? = some (0, 11)) ∧
    ci G d m_X12_nodeOf [.ref l0, .int l1, .int l3, .int 2] h2 fun r3 h4 =>
    (h4.1[l0]? = some (0, 11)) ∧
    cv G d m_X12_lays [.ref l0, .int l1, .int l2, .int 2, .int r3] h4 fun h6 =>
    (h6.1[l0]? = some (0, 11)) ∧
    ci G d m_X12_isLeaf [.ref l0, .int l1, .int l3] h6 fun r7 h8 =>
    if r7 = 0 then (
      (h8.1[l0]? = some (0, 11)) ∧
      cv G d m_X12_sifts [.ref l0, .int l1, .int l3] h8 fun h10 =>
      Wp G (m_X12_sifts, d + 1, 0, 0, post) (0, 0) 0 [.ref l0, .int l1, .int l2, .null, .null] [] h10
    ) else (
      (h8.1[l0]? = some (0, 11)) ∧
      cv G d m_X12_frees [.ref l0, .int l1, .int l3] h8 fun h12 =>
      (h12.1[l0]? = some (0, 11)) ∧
      cv G d m_X12_lays [.ref l0, .int l1, .int l2, .int 6, .int (-1)] h12 fun h14 =>
      Wp G (m_X12_sifts, d + 1, 0, 0, post) (0, 0) 0 [.ref l0, .int l1, .int l2, .null, .null] [] h14
    )) :
    Wp G (m_X12_sifts, d + 1, 0, 0, post) (0, 0) 94 [.ref l0, .int l1, .int l2, .int l3, .null] [] h := by
  refine w_aload_n dX12_sifts_94 rfl ?_
  refine w_iload_n dX12_sifts_95 rfl ?_
  refine w_iload_n dX12_sifts_96 rfl ?_
  refine w_iload_n dX12_sifts_97 rfl ?_
  obtain ⟨e1, w⟩ := w
  refine w_callV (As := [.int l1, .int l3, .int l2]) (st := []) dX12_sifts_98 mt_X12_pours g_1475 g_1477 g_72 rfl e1 rfl rfl (Nat.le_of_ble_eq_true rfl) (Nat.le_refl _) ⟨Nat.le_refl _, Nat.le_refl _⟩ w ?_
  rintro v h2 ⟨rfl, w⟩
  refine w_aload_n dX12_sifts_101 rfl ?_
  refine w_iload_n dX12_sifts_102 rfl ?_
  refine w_iload_n dX12_sifts_103 rfl ?_
  refine w_iconst (v := 2) dX12_sifts_104 rfl ?_
  refine w_aload_n dX12_sifts_105 rfl ?_
  refine w_iload_n dX12_sifts_106 rfl ?_
  refine w_iload_n dX12_sifts_107 rfl ?_
  refine w_iconst (v := 2) dX12_sifts_108 rfl ?_
  obtain ⟨e1, w⟩ := w
  refine w_callV (As := [.int l1, .int l3, .int 2]) (st := [.int 2, .int l2, .int l1, .ref l0]) dX12_sifts_109 mt_X12_nodeOf g_1420 g_1422 g_59 rfl e1 rfl rfl (Nat.le_of_ble_eq_true rfl) (Nat.le_refl _) ⟨Nat.le_refl _, Nat.le_refl _⟩ w ?_
  rintro v h4 ⟨r3, rfl, w⟩
  obtain ⟨e1, w⟩ := w
  refine w_callV (As := [.int l1, .int l2, .int 2, .int r3]) (st := []) dX12_sifts_112 mt_X12_lays g_1432 g_1434 g_62 rfl e1 rfl rfl (Nat.le_of_ble_eq_true rfl) (Nat.le_refl _) ⟨Nat.le_refl _, Nat.le_refl _⟩ w ?_
  rintro v h6 ⟨rfl, w⟩
  refine w_aload_n dX12_sifts_115 rfl ?_
  refine w_iload_n dX12_sifts_116 rfl ?_
  refine w_iload_n dX12_sifts_117 rfl ?_
  obtain ⟨e1, w⟩ := w
  refine w_callV (As := [.int l1, .int l3]) (st := []) dX12_sifts_118 mt_X12_isLeaf g_1471 g_1473 g_71 rfl e1 rfl rfl (Nat.le_of_ble_eq_true rfl) (Nat.le_refl _) ⟨Nat.le_refl _, Nat.le_refl _⟩ w ?_
  rintro v h8 ⟨r7, rfl, w⟩
  refine w_if_eq (tgt := 142) dX12_sifts_121 rfl (fun c => ?_) (fun c => ?_)
  · rw [if_pos c] at w
    refine w_aload_n dX12_sifts_142 rfl ?_
    refine w_iload_n dX12_sifts_143 rfl ?_
    refine w_iload_n dX12_sifts_144 rfl ?_
    obtain ⟨e1, w⟩ := w
    refine w_callV (As := [.int l1, .int l3]) (st := []) dX12_sifts_145 mt_X12_sifts g_1467 g_1469 g_70 rfl e1 rfl rfl (Nat.le_of_ble_eq_true rfl) (Nat.le_refl _) ⟨Nat.le_refl _, Nat.le_refl _⟩ w ?_
    rintro v h10 ⟨rfl, w⟩
    refine w_goto (tgt := 0) dX12_sifts_148 rfl ?_
    exact w_drop (l' := [.ref l0, .int l1, .int l2, .null, .null]) ⟨Or.inr rfl, Or.inr rfl, Or.inr rfl, Or.inl rfl, Or.inl rfl, trivial⟩ w
  · rw [if_neg c] at w
    refine w_aload_n dX12_sifts_124 rfl ?_
    refine w_iload_n dX12_sifts_125 rfl ?_
    refine w_iload_n dX12_sifts_126 rfl ?_
    obtain ⟨e1, w⟩ := w
    refine w_callV (As := [.int l1, .int l3]) (st := []) dX12_sifts_127 mt_X12_frees g_1428 g_1430 g_61 rfl e1 rfl rfl (Nat.le_of_ble_eq_true rfl) (Nat.le_refl _) ⟨Nat.le_refl _, Nat.le_refl _⟩ w ?_
    rintro v h12 ⟨rfl, w⟩
    refine w_aload_n dX12_sifts_130 rfl ?_
    refine w_iload_n dX12_sifts_131 rfl ?_
    refine w_iload_n dX12_sifts_132 rfl ?_
    refine w_bipush (v := 6) dX12_sifts_133 rfl ?_
    refine w_iconst (v := (-1)) dX12_sifts_135 rfl ?_
    obtain ⟨e1, w⟩ := w
    refine w_callV (As := [.int l1, .int l2, .int 6, .int (-1)]) (st := []) dX12_sifts_136 mt_X12_lays g_1432 g_1434 g_62 rfl e1 rfl rfl (Nat.le_of_ble_eq_true rfl) (Nat.le_refl _) ⟨Nat.le_refl _, Nat.le_refl _⟩ w ?_
    rintro v h14 ⟨rfl, w⟩
    refine w_goto (tgt := 148) dX12_sifts_139 rfl ?_
    refine w_goto (tgt := 0) dX12_sifts_148 rfl ?_
    exact w_drop (l' := [.ref l0, .int l1, .int l2, .null, .null]) ⟨Or.inr rfl, Or.inr rfl, Or.inr rfl, Or.inl rfl, Or.inl rfl, trivial⟩ w
set_option maxRecDepth 20000 in
set_option maxHeartbeats 4000000 in
theorem x_X12_itemsUnder {G : pm_G} {d : Nat} {post : pm_PT} {h : pm_H} {l0 : Nat} {l1 : Int32} {l2 : Int32} (w :
    if 0 ≤ l2 then (
      (h.1[l0]? = some (0, 11)) ∧
      ci G d m_X12_nodeOf [.ref l0, .int l1, .int l2, .int 3] h fun r1 h2 =>
      (h2.1[l0]? = some (0, 11)) ∧
      ci G d m_X12_nodeOf [.ref l0, .int l1, .int l2, .int 6] h2 fun r3 h4 =>
      (h4.1[l0]? = some (0, 11)) ∧
      ci G d m_X12_itemsUnder [.ref l0, .int l1, .int r3] h4 fun r5 h6 =>
      (h6.1[l0]? = some (0, 11)) ∧
      ci G d m_X12_nodeOf [.ref l0, .int l1, .int l2, .int 7] h6 fun r7 h8 =>
      (h8.1[l0]? = some (0, 11)) ∧
      ci G d m_X12_itemsUnder [.ref l0, .int l1, .int r7] h8 fun r9 h10 =>
      post (some (.int ((r1 + r5) + r9))) h10
    ) else (
      post (some (.int 0)) h
    )) :
    Wp G (m_X12_itemsUnder, d + 1, 0, 0, post) (0, 0) 0 [.ref l0, .int l1, .int l2] [] h := by
  refine w_iload_n dX12_itemsUnder_0 rfl ?_
  refine w_if_ge (tgt := 8) dX12_itemsUnder_1 rfl (fun c => ?_) (fun c => ?_)
  · rw [if_pos c] at w
    refine w_aload_n dX12_itemsUnder_8 rfl ?_
    refine w_iload_n dX12_itemsUnder_9 rfl ?_
    refine w_iload_n dX12_itemsUnder_10 rfl ?_
    refine w_iconst (v := 3) dX12_itemsUnder_11 rfl ?_
    obtain ⟨e1, w⟩ := w
    refine w_callV (As := [.int l1, .int l2, .int 3]) (st := []) dX12_itemsUnder_12 mt_X12_nodeOf g_1420 g_1422 g_59 rfl e1 rfl rfl (Nat.le_of_ble_eq_true rfl) (Nat.le_refl _) ⟨Nat.le_refl _, Nat.le_refl _⟩ w ?_
    rintro v h2 ⟨r1, rfl, w⟩
    refine w_aload_n dX12_itemsUnder_15 rfl ?_
    refine w_iload_n dX12_itemsUnder_16 rfl ?_
    refine w_aload_n dX12_itemsUnder_17 rfl ?_
    refine w_iload_n dX12_itemsUnder_18 rfl ?_
    refine w_iload_n dX12_itemsUnder_19 rfl ?_
    refine w_bipush (v := 6) dX12_itemsUnder_20 rfl ?_
    obtain ⟨e1, w⟩ := w
    refine w_callV (As := [.int l1, .int l2, .int 6]) (st := [.int l1, .ref l0, .int r1]) dX12_itemsUnder_22 mt_X12_nodeOf g_1420 g_1422 g_59 rfl e1 rfl rfl (Nat.le_of_ble_eq_true rfl) (Nat.le_refl _) ⟨Nat.le_refl _, Nat.le_refl _⟩ w ?_
    rintro v h4 ⟨r3, rfl, w⟩
    obtain ⟨e1, w⟩ := w
    refine w_callV (As := [.int l1, .int r3]) (st := [.int r1]) dX12_itemsUnder_25 mt_X12_itemsUnder g_1448 g_1450 g_66 rfl e1 rfl rfl (Nat.le_of_ble_eq_true rfl) (Nat.le_refl _) ⟨Nat.le_refl _, Nat.le_refl _⟩ w ?_
    rintro v h6 ⟨r5, rfl, w⟩
    refine w_iadd dX12_itemsUnder_28 ?_
    refine w_aload_n dX12_itemsUnder_29 rfl ?_
    refine w_iload_n dX12_itemsUnder_30 rfl ?_
    refine w_aload_n dX12_itemsUnder_31 rfl ?_
    refine w_iload_n dX12_itemsUnder_32 rfl ?_
    refine w_iload_n dX12_itemsUnder_33 rfl ?_
    refine w_bipush (v := 7) dX12_itemsUnder_34 rfl ?_
    obtain ⟨e1, w⟩ := w
    refine w_callV (As := [.int l1, .int l2, .int 7]) (st := [.int l1, .ref l0, .int (r1 + r5)]) dX12_itemsUnder_36 mt_X12_nodeOf g_1420 g_1422 g_59 rfl e1 rfl rfl (Nat.le_of_ble_eq_true rfl) (Nat.le_refl _) ⟨Nat.le_refl _, Nat.le_refl _⟩ w ?_
    rintro v h8 ⟨r7, rfl, w⟩
    obtain ⟨e1, w⟩ := w
    refine w_callV (As := [.int l1, .int r7]) (st := [.int (r1 + r5)]) dX12_itemsUnder_39 mt_X12_itemsUnder g_1448 g_1450 g_66 rfl e1 rfl rfl (Nat.le_of_ble_eq_true rfl) (Nat.le_refl _) ⟨Nat.le_refl _, Nat.le_refl _⟩ w ?_
    rintro v h10 ⟨r9, rfl, w⟩
    refine w_iadd dX12_itemsUnder_42 ?_
    exact w_ireturn dX12_itemsUnder_43 rfl rfl ⟨Nat.le_refl _, Nat.le_refl _⟩ w
  · rw [if_neg c] at w
    refine w_iconst (v := 0) dX12_itemsUnder_4 rfl ?_
    refine w_goto (tgt := 43) dX12_itemsUnder_5 rfl ?_
    exact w_ireturn dX12_itemsUnder_43 rfl rfl ⟨Nat.le_refl _, Nat.le_refl _⟩ w
set_option maxRecDepth 20000 in
set_option maxHeartbeats 4000000 in
theorem x_X12_nodesUnder {G : pm_G} {d : Nat} {post : pm_PT} {h : pm_H} {l0 : Nat} {l1 : Int32} {l2 : Int32} (w :
    if 0 ≤ l2 then (
      (h.1[l0]? = some (0, 11)) ∧
      ci G d m_X12_nodeOf [.ref l0, .int l1, .int l2, .int 6] h fun r1 h2 =>
      (h2.1[l0]? = some (0, 11)) ∧
      ci G d m_X12_nodesUnder [.ref l0, .int l1, .int r1] h2 fun r3 h4 =>
      (h4.1[l0]? = some (0, 11)) ∧
      ci G d m_X12_nodeOf [.ref l0, .int l1, .int l2, .int 7] h4 fun r5 h6 =>
      (h6.1[l0]? = some (0, 11)) ∧
      ci G d m_X12_nodesUnder [.ref l0, .int l1, .int r5] h6 fun r7 h8 =>
      post (some (.int ((1 + r3) + r7))) h8
    ) else (
      post (some (.int 0)) h
    )) :
    Wp G (m_X12_nodesUnder, d + 1, 0, 0, post) (0, 0) 0 [.ref l0, .int l1, .int l2] [] h := by
  refine w_iload_n dX12_nodesUnder_0 rfl ?_
  refine w_if_ge (tgt := 8) dX12_nodesUnder_1 rfl (fun c => ?_) (fun c => ?_)
  · rw [if_pos c] at w
    refine w_iconst (v := 1) dX12_nodesUnder_8 rfl ?_
    refine w_aload_n dX12_nodesUnder_9 rfl ?_
    refine w_iload_n dX12_nodesUnder_10 rfl ?_
    refine w_aload_n dX12_nodesUnder_11 rfl ?_
    refine w_iload_n dX12_nodesUnder_12 rfl ?_
    refine w_iload_n dX12_nodesUnder_13 rfl ?_
    refine w_bipush (v := 6) dX12_nodesUnder_14 rfl ?_
    obtain ⟨e1, w⟩ := w
    refine w_callV (As := [.int l1, .int l2, .int 6]) (st := [.int l1, .ref l0, .int 1]) dX12_nodesUnder_16 mt_X12_nodeOf g_1420 g_1422 g_59 rfl e1 rfl rfl (Nat.le_of_ble_eq_true rfl) (Nat.le_refl _) ⟨Nat.le_refl _, Nat.le_refl _⟩ w ?_
    rintro v h2 ⟨r1, rfl, w⟩
    obtain ⟨e1, w⟩ := w
    refine w_callV (As := [.int l1, .int r1]) (st := [.int 1]) dX12_nodesUnder_19 mt_X12_nodesUnder g_1798 g_1800 g_118 rfl e1 rfl rfl (Nat.le_of_ble_eq_true rfl) (Nat.le_refl _) ⟨Nat.le_refl _, Nat.le_refl _⟩ w ?_
    rintro v h4 ⟨r3, rfl, w⟩
    refine w_iadd dX12_nodesUnder_22 ?_
    refine w_aload_n dX12_nodesUnder_23 rfl ?_
    refine w_iload_n dX12_nodesUnder_24 rfl ?_
    refine w_aload_n dX12_nodesUnder_25 rfl ?_
    refine w_iload_n dX12_nodesUnder_26 rfl ?_
    refine w_iload_n dX12_nodesUnder_27 rfl ?_
    refine w_bipush (v := 7) dX12_nodesUnder_28 rfl ?_
    obtain ⟨e1, w⟩ := w
    refine w_callV (As := [.int l1, .int l2, .int 7]) (st := [.int l1, .ref l0, .int (1 + r3)]) dX12_nodesUnder_30 mt_X12_nodeOf g_1420 g_1422 g_59 rfl e1 rfl rfl (Nat.le_of_ble_eq_true rfl) (Nat.le_refl _) ⟨Nat.le_refl _, Nat.le_refl _⟩ w ?_
    rintro v h6 ⟨r5, rfl, w⟩
    obtain ⟨e1, w⟩ := w
    refine w_callV (As := [.int l1, .int r5]) (st := [.int (1 + r3)]) dX12_nodesUnder_33 mt_X12_nodesUnder g_1798 g_1800 g_118 rfl e1 rfl rfl (Nat.le_of_ble_eq_true rfl) (Nat.le_refl _) ⟨Nat.le_refl _, Nat.le_refl _⟩ w ?_
    rintro v h8 ⟨r7, rfl, w⟩
    refine w_iadd dX12_nodesUnder_36 ?_
    exact w_ireturn dX12_nodesUnder_37 rfl rfl ⟨Nat.le_refl _, Nat.le_refl _⟩ w
  · rw [if_neg c] at w
    refine w_iconst (v := 0) dX12_nodesUnder_4 rfl ?_
    refine w_goto (tgt := 37) dX12_nodesUnder_5 rfl ?_
    exact w_ireturn dX12_nodesUnder_37 rfl rfl ⟨Nat.le_refl _, Nat.le_refl _⟩ w
set_option maxRecDepth 20000 in
set_option maxHeartbeats 4000000 in
theorem x_X12_itemsIn {G : pm_G} {d : Nat} {post : pm_PT} {h : pm_H} {l0 : Nat} {l1 : Int32} {l2 : Int32} (w :
    Wp G (m_X12_itemsIn, d + 1, 0, 0, post) (0, 0) 5 [.ref l0, .int l1, .int l2, .int 0, .int 0] [] h) :
    Wp G (m_X12_itemsIn, d + 1, 0, 0, post) (0, 0) 0 [.ref l0, .int l1, .int l2, .null, .null] [] h := by
  refine w_iconst (v := 0) dX12_itemsIn_0 rfl ?_
  refine v_istore_n (l' := [.ref l0, .int l1, .int l2, .int 0, .null]) dX12_itemsIn_1 (Nat.le_of_ble_eq_true rfl) rfl ?_
  refine w_iconst (v := 0) dX12_itemsIn_2 rfl ?_
  refine v_istore (l' := [.ref l0, .int l1, .int l2, .int 0, .int 0]) dX12_itemsIn_3 (Nat.le_of_ble_eq_true rfl) rfl ?_
  exact w
set_option maxRecDepth 20000 in
set_option maxHeartbeats 4000000 in
theorem x_X12_itemsIn_5 {G : pm_G} {d : Nat} {post : pm_PT} {h : pm_H} {l0 : Nat} {l1 : Int32} {l2 : Int32} {l3 : Int32} {l4 : Int32} (w :
    if 16 ≤ l4 then (
      post (some (.int l3)) h
    ) else (
      (h.1[l0]? = some (0, 11)) ∧
      ci G d m_X12_rootAt [.ref l0, .int l1, .int l2, .int l4] h fun r1 h2 =>
      (h2.1[l0]? = some (0, 11)) ∧
      ci G d m_X12_itemsUnder [.ref l0, .int l1, .int r1] h2 fun r3 h4 =>
      Wp G (m_X12_itemsIn, d + 1, 0, 0, post) (0, 0) 5 [.ref l0, .int l1, .int l2, .int (l3 + r3), .int (l4 + 1)] [] h4
    )) :
    Wp G (m_X12_itemsIn, d + 1, 0, 0, post) (0, 0) 5 [.ref l0, .int l1, .int l2, .int l3, .int l4] [] h := by
  refine w_iload dX12_itemsIn_5 rfl ?_
  refine w_bipush (v := 16) dX12_itemsIn_7 rfl ?_
  refine w_ic_ge (tgt := 34) dX12_itemsIn_9 rfl (fun c => ?_) (fun c => ?_)
  · rw [if_pos c] at w
    refine w_iload_n dX12_itemsIn_34 rfl ?_
    exact w_ireturn dX12_itemsIn_35 rfl rfl ⟨Nat.le_refl _, Nat.le_refl _⟩ w
  · rw [if_neg c] at w
    refine w_iload_n dX12_itemsIn_12 rfl ?_
    refine w_aload_n dX12_itemsIn_13 rfl ?_
    refine w_iload_n dX12_itemsIn_14 rfl ?_
    refine w_aload_n dX12_itemsIn_15 rfl ?_
    refine w_iload_n dX12_itemsIn_16 rfl ?_
    refine w_iload_n dX12_itemsIn_17 rfl ?_
    refine w_iload dX12_itemsIn_18 rfl ?_
    obtain ⟨e1, w⟩ := w
    refine w_callV (As := [.int l1, .int l2, .int l4]) (st := [.int l1, .ref l0, .int l3]) dX12_itemsIn_20 mt_X12_rootAt g_1444 g_1446 g_65 rfl e1 rfl rfl (Nat.le_of_ble_eq_true rfl) (Nat.le_refl _) ⟨Nat.le_refl _, Nat.le_refl _⟩ w ?_
    rintro v h2 ⟨r1, rfl, w⟩
    obtain ⟨e1, w⟩ := w
    refine w_callV (As := [.int l1, .int r1]) (st := [.int l3]) dX12_itemsIn_23 mt_X12_itemsUnder g_1448 g_1450 g_66 rfl e1 rfl rfl (Nat.le_of_ble_eq_true rfl) (Nat.le_refl _) ⟨Nat.le_refl _, Nat.le_refl _⟩ w ?_
    rintro v h4 ⟨r3, rfl, w⟩
    refine w_iadd dX12_itemsIn_26 ?_
    refine v_istore_n (l' := [.ref l0, .int l1, .int l2, .int (l3 + r3), .int l4]) dX12_itemsIn_27 (Nat.le_of_ble_eq_true rfl) rfl ?_
    refine v_iinc (l' := [.ref l0, .int l1, .int l2, .int (l3 + r3), .int (l4 + 1)]) (v := l4 + 1) dX12_itemsIn_28 rfl rfl (Nat.le_of_ble_eq_true rfl) rfl ?_
    refine w_goto (tgt := 5) dX12_itemsIn_31 rfl ?_
    exact w
set_option maxRecDepth 20000 in
set_option maxHeartbeats 4000000 in
theorem x_X12_grows {G : pm_G} {d : Nat} {post : pm_PT} {h : pm_H} {l0 : Nat} {l1 : Int32} {l2 : Int32} {l3 : Int32} (w :
    (h.1[l0]? = some (0, 11)) ∧
    ∃ n1 : Nat, h.1[gp h l0 10]? = some (1, n1) ∧
    (vp_in 3 n1) ∧
    ∃ n2 : Nat, h.1[gp h l0 15]? = some (1, n2) ∧
    (vp_in 0 n2) ∧
    ∀ h3 : pm_H, h3 = si h (gp h l0 15) (0 : Int32).toNatClampNeg l1 →
    ∃ n4 : Nat, h.1[gp h3 l0 15]? = some (1, n4) ∧
    (vp_in 1 n4) ∧
    ∀ h5 : pm_H, h5 = si h3 (gp h3 l0 15) (1 : Int32).toNatClampNeg l2 →
    ∃ n6 : Nat, h.1[gp h5 l0 15]? = some (1, n6) ∧
    (vp_in 2 n6) ∧
    ∀ h7 : pm_H, h7 = si h5 (gp h5 l0 15) (2 : Int32).toNatClampNeg (gi h (gp h l0 10) (3 : Int32).toNatClampNeg) →
    ∃ n8 : Nat, h.1[gp h7 l0 15]? = some (1, n8) ∧
    (vp_in 3 n8) ∧
    ∀ h9 : pm_H, h9 = si h7 (gp h7 l0 15) (3 : Int32).toNatClampNeg l3 →
    ∃ n10 : Nat, h.1[gp h9 l0 10]? = some (1, n10) ∧
    (vp_in 4 n10) ∧
    if (gi h9 (gp h9 l0 10) (4 : Int32).toNatClampNeg) < 0 then (
      if (gi h (gp h l0 10) (3 : Int32).toNatClampNeg) < l1 then (
        if 1 ≤ (((3 * l2) + 1) / 2) then (
          if (((3 * l2) + 1) / 2) ≤ 99 then (
            post (some (.int (((3 * l2) + 1) / 2))) h9
          ) else (
            post (some (.int 99)) h9
          )
        ) else (
          post (some (.int 1)) h9
        )
      ) else (
        post (some (.int 1)) h9
      )
    ) else (
      ci G d m_X12_worthAt [.ref l0, .int (gi h9 (gp h9 l0 10) (4 : Int32).toNatClampNeg)] h9 fun r11 h12 =>
      if 1 ≤ r11 then (
        if r11 ≤ 99 then (
          post (some (.int r11)) h12
        ) else (
          post (some (.int 99)) h12
        )
      ) else (
        post (some (.int 1)) h12
      )
    )) :
    Wp G (m_X12_grows, d + 1, 0, 0, post) (0, 0) 0 [.ref l0, .int l1, .int l2, .int l3, .null, .null] [] h := by
  refine w_aload_n dX12_grows_0 rfl ?_
  obtain ⟨e1, w⟩ := w
  refine w_getp dX12_grows_1 lk_RX12_79 e1 rfl ?_
  refine w_iconst (v := 3) dX12_grows_4 rfl ?_
  obtain ⟨n1, ln1, w⟩ := w
  obtain ⟨e3, w⟩ := w
  refine w_iald dX12_grows_5 ln1 e3 ?_
  refine v_istore (l' := [.ref l0, .int l1, .int l2, .int l3, .int (gi h (gp h l0 10) (3 : Int32).toNatClampNeg), .null]) dX12_grows_6 (Nat.le_of_ble_eq_true rfl) rfl ?_
  refine w_aload_n dX12_grows_8 rfl ?_
  refine w_getp dX12_grows_9 lk_RX12_91 e1 rfl ?_
  refine w_iconst (v := 0) dX12_grows_12 rfl ?_
  refine w_iload_n dX12_grows_13 rfl ?_
  obtain ⟨n2, ln2, w⟩ := w
  obtain ⟨e5, w⟩ := w
  refine w_iast dX12_grows_14 ln2 e5 ?_
  have w := w _ rfl
  refine w_aload_n dX12_grows_15 rfl ?_
  refine w_getp dX12_grows_16 lk_RX12_91 e1 rfl ?_
  refine w_iconst (v := 1) dX12_grows_19 rfl ?_
  refine w_iload_n dX12_grows_20 rfl ?_
  obtain ⟨n4, ln4, w⟩ := w
  obtain ⟨e7, w⟩ := w
  refine w_iast dX12_grows_21 ln4 e7 ?_
  have w := w _ rfl
  refine w_aload_n dX12_grows_22 rfl ?_
  refine w_getp dX12_grows_23 lk_RX12_91 e1 rfl ?_
  refine w_iconst (v := 2) dX12_grows_26 rfl ?_
  refine w_iload dX12_grows_27 rfl ?_
  obtain ⟨n6, ln6, w⟩ := w
  obtain ⟨e9, w⟩ := w
  refine w_iast dX12_grows_29 ln6 e9 ?_
  have w := w _ rfl
  refine w_aload_n dX12_grows_30 rfl ?_
  refine w_getp dX12_grows_31 lk_RX12_91 e1 rfl ?_
  refine w_iconst (v := 3) dX12_grows_34 rfl ?_
  refine w_iload_n dX12_grows_35 rfl ?_
  obtain ⟨n8, ln8, w⟩ := w
  obtain ⟨e11, w⟩ := w
  refine w_iast dX12_grows_36 ln8 e11 ?_
  have w := w _ rfl
  refine w_aload_n dX12_grows_37 rfl ?_
  refine w_getp dX12_grows_38 lk_RX12_79 e1 rfl ?_
  refine w_iconst (v := 4) dX12_grows_41 rfl ?_
  obtain ⟨n10, ln10, w⟩ := w
  obtain ⟨e13, w⟩ := w
  refine w_iald dX12_grows_42 ln10 e13 ?_
  refine w_if_lt (tgt := 59) dX12_grows_43 rfl (fun c => ?_) (fun c => ?_)
  · rw [if_pos c] at w
    refine w_iload_n dX12_grows_59 rfl ?_
    refine w_iload dX12_grows_60 rfl ?_
    refine w_ic_gt (tgt := 69) dX12_grows_62 rfl (fun c => ?_) (fun c => ?_)
    · rw [if_pos c] at w
      refine w_iconst (v := 3) dX12_grows_69 rfl ?_
      refine w_iload_n dX12_grows_70 rfl ?_
      refine w_imul dX12_grows_71 ?_
      refine w_iconst (v := 1) dX12_grows_72 rfl ?_
      refine w_iadd dX12_grows_73 ?_
      refine w_iconst (v := 2) dX12_grows_74 rfl ?_
      refine w_idiv dX12_grows_75 (by decide) ?_
      refine v_istore (l' := [.ref l0, .int l1, .int l2, .int l3, .int (gi h (gp h l0 10) (3 : Int32).toNatClampNeg), .int (((3 * l2) + 1) / 2)]) dX12_grows_76 (Nat.le_of_ble_eq_true rfl) rfl ?_
      refine w_iload dX12_grows_78 rfl ?_
      refine w_iconst (v := 1) dX12_grows_80 rfl ?_
      refine w_ic_ge (tgt := 88) dX12_grows_81 rfl (fun c => ?_) (fun c => ?_)
      · rw [if_pos c] at w
        refine w_iload dX12_grows_88 rfl ?_
        refine w_bipush (v := 99) dX12_grows_90 rfl ?_
        refine w_ic_le (tgt := 100) dX12_grows_92 rfl (fun c => ?_) (fun c => ?_)
        · rw [if_pos c] at w
          refine w_iload dX12_grows_100 rfl ?_
          exact w_ireturn dX12_grows_102 rfl rfl ⟨Nat.le_refl _, Nat.le_refl _⟩ w
        · rw [if_neg c] at w
          refine w_bipush (v := 99) dX12_grows_95 rfl ?_
          refine w_goto (tgt := 102) dX12_grows_97 rfl ?_
          exact w_ireturn dX12_grows_102 rfl rfl ⟨Nat.le_refl _, Nat.le_refl _⟩ w
      · rw [if_neg c] at w
        refine w_iconst (v := 1) dX12_grows_84 rfl ?_
        refine w_goto (tgt := 102) dX12_grows_85 rfl ?_
        exact w_ireturn dX12_grows_102 rfl rfl ⟨Nat.le_refl _, Nat.le_refl _⟩ w
    · rw [if_neg c] at w
      refine w_iconst (v := 1) dX12_grows_65 rfl ?_
      refine w_goto (tgt := 76) dX12_grows_66 rfl ?_
      refine v_istore (l' := [.ref l0, .int l1, .int l2, .int l3, .int (gi h (gp h l0 10) (3 : Int32).toNatClampNeg), .int 1]) dX12_grows_76 (Nat.le_of_ble_eq_true rfl) rfl ?_
      refine w_iload dX12_grows_78 rfl ?_
      refine w_iconst (v := 1) dX12_grows_80 rfl ?_
      refine w_ic_ge (tgt := 88) dX12_grows_81 rfl (fun c => ?_) (fun c => ?_)
      · refine w_iload dX12_grows_88 rfl ?_
        refine w_bipush (v := 99) dX12_grows_90 rfl ?_
        refine w_ic_le (tgt := 100) dX12_grows_92 rfl (fun c => ?_) (fun c => ?_)
        · refine w_iload dX12_grows_100 rfl ?_
          exact w_ireturn dX12_grows_102 rfl rfl ⟨Nat.le_refl _, Nat.le_refl _⟩ w
        · exact absurd c (by decide)
      · exact absurd c (by decide)
  · rw [if_neg c] at w
    refine w_aload_n dX12_grows_46 rfl ?_
    refine w_aload_n dX12_grows_47 rfl ?_
    refine w_getp dX12_grows_48 lk_RX12_79 e1 rfl ?_
    refine w_iconst (v := 4) dX12_grows_51 rfl ?_
    refine w_iald dX12_grows_52 ln10 e13 ?_
    refine w_callV (As := [.int (gi (si (si (si (si h (gp h l0 15) (0 : Int32).toNatClampNeg l1) (gp (si h (gp h l0 15) (0 : Int32).toNatClampNeg l1) l0 15) (1 : Int32).toNatClampNeg l2) (gp (si (si h (gp h l0 15) (0 : Int32).toNatClampNeg l1) (gp (si h (gp h l0 15) (0 : Int32).toNatClampNeg l1) l0 15) (1 : Int32).toNatClampNeg l2) l0 15) (2 : Int32).toNatClampNeg (gi h (gp h l0 10) (3 : Int32).toNatClampNeg)) (gp (si (si (si h (gp h l0 15) (0 : Int32).toNatClampNeg l1) (gp (si h (gp h l0 15) (0 : Int32).toNatClampNeg l1) l0 15) (1 : Int32).toNatClampNeg l2) (gp (si (si h (gp h l0 15) (0 : Int32).toNatClampNeg l1) (gp (si h (gp h l0 15) (0 : Int32).toNatClampNeg l1) l0 15) (1 : Int32).toNatClampNeg l2) l0 15) (2 : Int32).toNatClampNeg (gi h (gp h l0 10) (3 : Int32).toNatClampNeg)) l0 15) (3 : Int32).toNatClampNeg l3) (gp (si (si (si (si h (gp h l0 15) (0 : Int32).toNatClampNeg l1) (gp (si h (gp h l0 15) (0 : Int32).toNatClampNeg l1) l0 15) (1 : Int32).toNatClampNeg l2) (gp (si (si h (gp h l0 15) (0 : Int32).toNatClampNeg l1) (gp (si h (gp h l0 15) (0 : Int32).toNatClampNeg l1) l0 15) (1 : Int32).toNatClampNeg l2) l0 15) (2 : Int32).toNatClampNeg (gi h (gp h l0 10) (3 : Int32).toNatClampNeg)) (gp (si (si (si h (gp h l0 15) (0 : Int32).toNatClampNeg l1) (gp (si h (gp h l0 15) (0 : Int32).toNatClampNeg l1) l0 15) (1 : Int32).toNatClampNeg l2) (gp (si (si h (gp h l0 15) (0 : Int32).toNatClampNeg l1) (gp (si h (gp h l0 15) (0 : Int32).toNatClampNeg l1) l0 15) (1 : Int32).toNatClampNeg l2) l0 15) (2 : Int32).toNatClampNeg (gi h (gp h l0 10) (3 : Int32).toNatClampNeg)) l0 15) (3 : Int32).toNatClampNeg l3) l0 10) (4 : Int32).toNatClampNeg)]) (st := []) dX12_grows_53 mt_X12_worthAt g_1460 g_1462 g_69 rfl e1 rfl rfl (Nat.le_of_ble_eq_true rfl) (Nat.le_refl _) ⟨Nat.le_refl _, Nat.le_refl _⟩ w ?_
    rintro v h12 ⟨r11, rfl, w⟩
    refine w_goto (tgt := 76) dX12_grows_56 rfl ?_
    refine v_istore (l' := [.ref l0, .int l1, .int l2, .int l3, .int (gi h (gp h l0 10) (3 : Int32).toNatClampNeg), .int r11]) dX12_grows_76 (Nat.le_of_ble_eq_true rfl) rfl ?_
    refine w_iload dX12_grows_78 rfl ?_
    refine w_iconst (v := 1) dX12_grows_80 rfl ?_
    refine w_ic_ge (tgt := 88) dX12_grows_81 rfl (fun c => ?_) (fun c => ?_)
    · rw [if_pos c] at w
      refine w_iload dX12_grows_88 rfl ?_
      refine w_bipush (v := 99) dX12_grows_90 rfl ?_
      refine w_ic_le (tgt := 100) dX12_grows_92 rfl (fun c => ?_) (fun c => ?_)
      · rw [if_pos c] at w
        refine w_iload dX12_grows_100 rfl ?_
        exact w_ireturn dX12_grows_102 rfl rfl ⟨Nat.le_refl _, Nat.le_refl _⟩ w
      · rw [if_neg c] at w
        refine w_bipush (v := 99) dX12_grows_95 rfl ?_
        refine w_goto (tgt := 102) dX12_grows_97 rfl ?_
        exact w_ireturn dX12_grows_102 rfl rfl ⟨Nat.le_refl _, Nat.le_refl _⟩ w
    · rw [if_neg c] at w
      refine w_iconst (v := 1) dX12_grows_84 rfl ?_
      refine w_goto (tgt := 102) dX12_grows_85 rfl ?_
      exact w_ireturn dX12_grows_102 rfl rfl ⟨Nat.le_refl _, Nat.le_refl _⟩ w
set_option maxRecDepth 20000 in
set_option maxHeartbeats 4000000 in
theorem x_X12_joins {G : pm_G} {d : Nat} {post : pm_PT} {h : pm_H} {l0 : Nat} {l1 : Int32} {l2 : Int32} {l3 : Int32} (w :
    (h.1[l0]? = some (0, 11)) ∧
    ci G d m_X12_itemsIn [.ref l0, .int l1, .int l2] h fun r1 h2 =>
    (h2.1[l0]? = some (0, 11)) ∧
    ci G d m_X12_itemsUnder [.ref l0, .int l1, .int l3] h2 fun r3 h4 =>
    Wp G (m_X12_joins, d + 1, 0, 0, post) (0, 0) 18 [.ref l0, .int l1, .int l2, .null, .int l3, .int (r1 + r3), .null, .null, .null, .null] [] h4) :
    Wp G (m_X12_joins, d + 1, 0, 0, post) (0, 0) 0 [.ref l0, .int l1, .int l2, .int l3, .null, .null, .null, .null, .null, .null] [] h := by
  refine w_iload_n dX12_joins_0 rfl ?_
  refine v_istore (l' := [.ref l0, .int l1, .int l2, .int l3, .int l3, .null, .null, .null, .null, .null]) dX12_joins_1 (Nat.le_of_ble_eq_true rfl) rfl ?_
  refine w_aload_n dX12_joins_3 rfl ?_
  refine w_iload_n dX12_joins_4 rfl ?_
  refine w_iload_n dX12_joins_5 rfl ?_
  obtain ⟨e1, w⟩ := w
  refine w_callV (As := [.int l1, .int l2]) (st := []) dX12_joins_6 mt_X12_itemsIn g_1440 g_1442 g_64 rfl e1 rfl rfl (Nat.le_of_ble_eq_true rfl) (Nat.le_refl _) ⟨Nat.le_refl _, Nat.le_refl _⟩ w ?_
  rintro v h2 ⟨r1, rfl, w⟩
  refine w_aload_n dX12_joins_9 rfl ?_
  refine w_iload_n dX12_joins_10 rfl ?_
  refine w_iload_n dX12_joins_11 rfl ?_
  obtain ⟨e1, w⟩ := w
  refine w_callV (As := [.int l1, .int l3]) (st := [.int r1]) dX12_joins_12 mt_X12_itemsUnder g_1448 g_1450 g_66 rfl e1 rfl rfl (Nat.le_of_ble_eq_true rfl) (Nat.le_refl _) ⟨Nat.le_refl _, Nat.le_refl _⟩ w ?_
  rintro v h4 ⟨r3, rfl, w⟩
  refine w_iadd dX12_joins_15 ?_
  refine v_istore (l' := [.ref l0, .int l1, .int l2, .int l3, .int l3, .int (r1 + r3), .null, .null, .null, .null]) dX12_joins_16 (Nat.le_of_ble_eq_true rfl) rfl ?_
  exact w_drop (l' := [.ref l0, .int l1, .int l2, .null, .int l3, .int (r1 + r3), .null, .null, .null, .null]) ⟨Or.inr rfl, Or.inr rfl, Or.inr rfl, Or.inl rfl, Or.inr rfl, Or.inr rfl, Or.inl rfl, Or.inl rfl, Or.inl rfl, Or.inl rfl, trivial⟩ w
set_option maxRecDepth 20000 in
set_option maxHeartbeats 4000000 in
theorem x_X12_joins_18 {G : pm_G} {d : Nat} {post : pm_PT} {h : pm_H} {l0 : Nat} {l1 : Int32} {l2 : Int32} {l4 : Int32} {l5 : Int32} (w :
    (h.1[l0]? = some (0, 11)) ∧
    ci G d m_X12_nodeOf [.ref l0, .int l1, .int l4, .int 0] h fun r1 h2 =>
    (h2.1[l0]? = some (0, 11)) ∧
    ci G d m_X12_rootAt [.ref l0, .int l1, .int l2, .int r1] h2 fun r3 h4 =>
    if r3 < 0 then (
      (h4.1[l0]? = some (0, 11)) ∧
      ci G d m_X12_nodeOf [.ref l0, .int l1, .int l4, .int 0] h4 fun r5 h6 =>
      (h6.1[l0]? = some (0, 11)) ∧
      cv G d m_X12_roots [.ref l0, .int l1, .int l2, .int r5, .int l4] h6 fun h8 =>
      post none h8
    ) else (
      (h4.1[l0]? = some (0, 11)) ∧
      ci G d m_X12_nodeOf [.ref l0, .int l1, .int l4, .int 0] h4 fun r9 h10 =>
      (h10.1[l0]? = some (0, 11)) ∧
      ci G d m_X12_rootAt [.ref l0, .int l1, .int l2, .int r9] h10 fun r11 h12 =>
      (h12.1[l0]? = some (0, 11)) ∧
      cv G d m_X12_roots [.ref l0, .int l1, .int l2, .int r9, .int (-1)] h12 fun h14 =>
      (h14.1[l0]? = some (0, 11)) ∧
      ci G d m_X12_nodeOf [.ref l0, .int l1, .int r11, .int 1] h14 fun r15 h16 =>
      (h16.1[l0]? = some (0, 11)) ∧
      ci G d m_X12_nodeOf [.ref l0, .int l1, .int l4, .int 1] h16 fun r17 h18 =>
      if r15 ≤ r17 then (
        (h18.1[l0]? = some (0, 11)) ∧
        ci G d m_X12_nodeOf [.ref l0, .int l1, .int l4, .int 1] h18 fun r19 h20 =>
        (h20.1[l0]? = some (0, 11)) ∧
        ci G d m_X12_freeNode [.ref l0, .int l1] h20 fun r21 h22 =>
        (h22.1[l0]? = some (0, 11)) ∧
        ci G d m_X12_grows [.ref l0, .int (r9 + 1), .int r19, .int l5] h22 fun r23 h24 =>
        (h24.1[l0]? = some (0, 11)) ∧
        cv G d m_X12_makes [.ref l0, .int l1, .int r21, .int (r9 + 1), .int r23] h24 fun h26 =>
        (h26.1[l0]? = some (0, 11)) ∧
        cv G d m_X12_lays [.ref l0, .int l1, .int r21, .int 6, .int r11] h26 fun h28 =>
        (h28.1[l0]? = some (0, 11)) ∧
        cv G d m_X12_lays [.ref l0, .int l1, .int r21, .int 7, .int l4] h28 fun h30 =>
        (h30.1[l0]? = some (0, 11)) ∧
        cv G d m_X12_sifts [.ref l0, .int l1, .int r21] h30 fun h32 =>
        Wp G (m_X12_joins, d + 1, 0, 0, post) (0, 0) 18 [.ref l0, .int l1, .int l2, .null, .int r21, .int l5, .null, .null, .null, .null] [] h32
      ) else (
        (h18.1[l0]? = some (0, 11)) ∧
        ci G d m_X12_nodeOf [.ref l0, .int l1, .int r11, .int 1] h18 fun r33 h34 =>
        (h34.1[l0]? = some (0, 11)) ∧
        ci G d m_X12_freeNode [.ref l0, .int l1] h34 fun r35 h36 =>
        (h36.1[l0]? = some (0, 11)) ∧
        ci G d m_X12_grows [.ref l0, .int (r9 + 1), .int r33, .int l5] h36 fun r37 h38 =>
        (h38.1[l0]? = some (0, 11)) ∧
        cv G d m_X12_makes [.ref l0, .int l1, .int r35, .int (r9 + 1), .int r37] h38 fun h40 =>
        (h40.1[l0]? = some (0, 11)) ∧
        cv G d m_X12_lays [.ref l0, .int l1, .int r35, .int 6, .int r11] h40 fun h42 =>
        (h42.1[l0]? = some (0, 11)) ∧
        cv G d m_X12_lays [.ref l0, .int l1, .int r35, .int 7, .int l4] h42 fun h44 =>
        (h44.1[l0]? = some (0, 11)) ∧
        cv G d m_X12_sifts [.ref l0, .int l1, .int r35] h44 fun h46 =>
        Wp G (m_X12_joins, d + 1, 0, 0, post) (0, 0) 18 [.ref l0, .int l1, .int l2, .null, .int r35, .int l5, .null, .null, .null, .null] [] h46
      )
    )) :
    Wp G (m_X12_joins, d + 1, 0, 0, post) (0, 0) 18 [.ref l0, .int l1, .int l2, .null, .int l4, .int l5, .null, .null, .null, .null] [] h := by
  refine w_aload_n dX12_joins_18 rfl ?_
  refine w_iload_n dX12_joins_19 rfl ?_
  refine w_iload_n dX12_joins_20 rfl ?_
  refine w_aload_n dX12_joins_21 rfl ?_
  refine w_iload_n dX12_joins_22 rfl ?_
  refine w_iload dX12_joins_23 rfl ?_
  refine w_iconst (v := 0) dX12_joins_25 rfl ?_
  obtain ⟨e1, w⟩ := w
  refine w_callV (As := [.int l1, .int l4, .int 0]) (st := [.int l2, .int l1, .ref l0]) dX12_joins_26 mt_X12_nodeOf g_1420 g_1422 g_59 rfl e1 rfl rfl (Nat.le_of_ble_eq_true rfl) (Nat.le_refl _) ⟨Nat.le_refl _, Nat.le_refl _⟩ w ?_
  rintro v h2 ⟨r1, rfl, w⟩
  obtain ⟨e1, w⟩ := w
  refine w_callV (As := [.int l1, .int l2, .int r1]) (st := []) dX12_joins_29 mt_X12_rootAt g_1444 g_1446 g_65 rfl e1 rfl rfl (Nat.le_of_ble_eq_true rfl) (Nat.le_refl _) ⟨Nat.le_refl _, Nat.le_refl _⟩ w ?_
  rintro v h4 ⟨r3, rfl, w⟩
  refine w_if_lt (tgt := 170) dX12_joins_32 rfl (fun c => ?_) (fun c => ?_)
  · rw [if_pos c] at w
    refine w_aload_n dX12_joins_170 rfl ?_
    refine w_iload_n dX12_joins_171 rfl ?_
    refine w_iload_n dX12_joins_172 rfl ?_
    refine w_aload_n dX12_joins_173 rfl ?_
    refine w_iload_n dX12_joins_174 rfl ?_
    refine w_iload dX12_joins_175 rfl ?_
    refine w_iconst (v := 0) dX12_joins_177 rfl ?_
    obtain ⟨e1, w⟩ := w
    refine w_callV (As := [.int l1, .int l4, .int 0]) (st := [.int l2, .int l1, .ref l0]) dX12_joins_178 mt_X12_nodeOf g_1420 g_1422 g_59 rfl e1 rfl rfl (Nat.le_of_ble_eq_true rfl) (Nat.le_refl _) ⟨Nat.le_refl _, Nat.le_refl _⟩ w ?_
    rintro v h6 ⟨r5, rfl, w⟩
    refine w_iload dX12_joins_181 rfl ?_
    obtain ⟨e1, w⟩ := w
    refine w_callV (As := [.int l1, .int l2, .int r5, .int l4]) (st := []) dX12_joins_183 mt_X12_roots g_1452 g_1454 g_67 rfl e1 rfl rfl (Nat.le_of_ble_eq_true rfl) (Nat.le_refl _) ⟨Nat.le_refl _, Nat.le_refl _⟩ w ?_
    rintro v h8 ⟨rfl, w⟩
    exact w_return dX12_joins_186 rfl ⟨Nat.le_refl _, Nat.le_refl _⟩ w
  · rw [if_neg c] at w
    refine w_aload_n dX12_joins_35 rfl ?_
    refine w_iload_n dX12_joins_36 rfl ?_
    refine w_iload dX12_joins_37 rfl ?_
    refine w_iconst (v := 0) dX12_joins_39 rfl ?_
    obtain ⟨e1, w⟩ := w
    refine w_callV (As := [.int l1, .int l4, .int 0]) (st := []) dX12_joins_40 mt_X12_nodeOf g_1420 g_1422 g_59 rfl e1 rfl rfl (Nat.le_of_ble_eq_true rfl) (Nat.le_refl _) ⟨Nat.le_refl _, Nat.le_refl _⟩ w ?_
    rintro v h10 ⟨r9, rfl, w⟩
    refine v_istore (l' := [.ref l0, .int l1, .int l2, .null, .int l4, .int l5, .int r9, .null, .null, .null]) dX12_joins_43 (Nat.le_of_ble_eq_true rfl) rfl ?_
    refine w_aload_n dX12_joins_45 rfl ?_
    refine w_iload_n dX12_joins_46 rfl ?_
    refine w_iload_n dX12_joins_47 rfl ?_
    refine w_iload dX12_joins_48 rfl ?_
    obtain ⟨e1, w⟩ := w
    refine w_callV (As := [.int l1, .int l2, .int r9]) (st := []) dX12_joins_50 mt_X12_rootAt g_1444 g_1446 g_65 rfl e1 rfl rfl (Nat.le_of_ble_eq_true rfl) (Nat.le_refl _) ⟨Nat.le_refl _, Nat.le_refl _⟩ w ?_
    rintro v h12 ⟨r11, rfl, w⟩
    refine v_istore (l' := [.ref l0, .int l1, .int l2, .null, .int l4, .int l5, .int r9, .int r11, .null, .null]) dX12_joins_53 (Nat.le_of_ble_eq_true rfl) rfl ?_
    refine w_aload_n dX12_joins_55 rfl ?_
    refine w_iload_n dX12_joins_56 rfl ?_
    refine w_iload_n dX12_joins_57 rfl ?_
    refine w_iload dX12_joins_58 rfl ?_
    refine w_iconst (v := (-1)) dX12_joins_60 rfl ?_
    obtain ⟨e1, w⟩ := w
    refine w_callV (As := [.int l1, .int l2, .int r9, .int (-1)]) (st := []) dX12_joins_61 mt_X12_roots g_1452 g_1454 g_67 rfl e1 rfl rfl (Nat.le_of_ble_eq_true rfl) (Nat.le_refl _) ⟨Nat.le_refl _, Nat.le_refl _⟩ w ?_
    rintro v h14 ⟨rfl, w⟩
    refine w_aload_n dX12_joins_64 rfl ?_
    refine w_iload_n dX12_joins_65 rfl ?_
    refine w_iload dX12_joins_66 rfl ?_
    refine w_iconst (v := 1) dX12_joins_68 rfl ?_
    obtain ⟨e1, w⟩ := w
    refine w_callV (As := [.int l1, .int r11, .int 1]) (st := []) dX12_joins_69 mt_X12_nodeOf g_1420 g_1422 g_59 rfl e1 rfl rfl (Nat.le_of_ble_eq_true rfl) (Nat.le_refl _) ⟨Nat.le_refl _, Nat.le_refl _⟩ w ?_
    rintro v h16 ⟨r15, rfl, w⟩
    refine w_aload_n dX12_joins_72 rfl ?_
    refine w_iload_n dX12_joins_73 rfl ?_
    refine w_iload dX12_joins_74 rfl ?_
    refine w_iconst (v := 1) dX12_joins_76 rfl ?_
    obtain ⟨e1, w⟩ := w
    refine w_callV (As := [.int l1, .int l4, .int 1]) (st := [.int r15]) dX12_joins_77 mt_X12_nodeOf g_1420 g_1422 g_59 rfl e1 rfl rfl (Nat.le_of_ble_eq_true rfl) (Nat.le_refl _) ⟨Nat.le_refl _, Nat.le_refl _⟩ w ?_
    rintro v h18 ⟨r17, rfl, w⟩
    refine w_ic_le (tgt := 94) dX12_joins_80 rfl (fun c => ?_) (fun c => ?_)
    · rw [if_pos c] at w
      refine w_aload_n dX12_joins_94 rfl ?_
      refine w_iload_n dX12_joins_95 rfl ?_
      refine w_iload dX12_joins_96 rfl ?_
      refine w_iconst (v := 1) dX12_joins_98 rfl ?_
      obtain ⟨e1, w⟩ := w
      refine w_callV (As := [.int l1, .int l4, .int 1]) (st := []) dX12_joins_99 mt_X12_nodeOf g_1420 g_1422 g_59 rfl e1 rfl rfl (Nat.le_of_ble_eq_true rfl) (Nat.le_refl _) ⟨Nat.le_refl _, Nat.le_refl _⟩ w ?_
      rintro v h20 ⟨r19, rfl, w⟩
      refine v_istore (l' := [.ref l0, .int l1, .int l2, .null, .int l4, .int l5, .int r9, .int r11, .int r19, .null]) dX12_joins_102 (Nat.le_of_ble_eq_true rfl) rfl ?_
      refine w_aload_n dX12_joins_104 rfl ?_
      refine w_iload_n dX12_joins_105 rfl ?_
      obtain ⟨e1, w⟩ := w
      refine w_callV (As := [.int l1]) (st := []) dX12_joins_106 mt_X12_freeNode g_1416 g_1418 g_58 rfl e1 rfl rfl (Nat.le_of_ble_eq_true rfl) (Nat.le_refl _) ⟨Nat.le_refl _, Nat.le_refl _⟩ w ?_
      rintro v h22 ⟨r21, rfl, w⟩
      refine v_istore (l' := [.ref l0, .int l1, .int l2, .null, .int l4, .int l5, .int r9, .int r11, .int r19, .int r21]) dX12_joins_109 (Nat.le_of_ble_eq_true rfl) rfl ?_
      refine w_aload_n dX12_joins_111 rfl ?_
      refine w_iload_n dX12_joins_112 rfl ?_
      refine w_iload dX12_joins_113 rfl ?_
      refine w_iload dX12_joins_115 rfl ?_
      refine w_iconst (v := 1) dX12_joins_117 rfl ?_
      refine w_iadd dX12_joins_118 ?_
      refine w_aload_n dX12_joins_119 rfl ?_
      refine w_iload dX12_joins_120 rfl ?_
      refine w_iconst (v := 1) dX12_joins_122 rfl ?_
      refine w_iadd dX12_joins_123 ?_
      refine w_iload dX12_joins_124 rfl ?_
      refine w_iload dX12_joins_126 rfl ?_
      obtain ⟨e1, w⟩ := w
      refine w_callV (As := [.int (r9 + 1), .int r19, .int l5]) (st := [.int (r9 + 1), .int r21, .int l1, .ref l0]) dX12_joins_128 mt_X12_grows g_1456 g_1458 g_68 rfl e1 rfl rfl (Nat.le_of_ble_eq_true rfl) (Nat.le_refl _) ⟨Nat.le_refl _, Nat.le_refl _⟩ w ?_
      rintro v h24 ⟨r23, rfl, w⟩
      obtain ⟨e1, w⟩ := w
      refine w_callV (As := [.int l1, .int r21, .int (r9 + 1), .int r23]) (st := []) dX12_joins_131 mt_X12_makes g_1424 g_1426 g_60 rfl e1 rfl rfl (Nat.le_of_ble_eq_true rfl) (Nat.le_refl _) ⟨Nat.le_refl _, Nat.le_refl _⟩ w ?_
      rintro v h26 ⟨rfl, w⟩
      refine w_aload_n dX12_joins_134 rfl ?_
      refine w_iload_n dX12_joins_135 rfl ?_
      refine w_iload dX12_joins_136 rfl ?_
      refine w_bipush (v := 6) dX12_joins_138 rfl ?_
      refine w_iload dX12_joins_140 rfl ?_
      obtain ⟨e1, w⟩ := w
      refine w_callV (As := [.int l1, .int r21, .int 6, .int r11]) (st := []) dX12_joins_142 mt_X12_lays g_1432 g_1434 g_62 rfl e1 rfl rfl (Nat.le_of_ble_eq_true rfl) (Nat.le_refl _) ⟨Nat.le_refl _, Nat.le_refl _⟩ w ?_
      rintro v h28 ⟨rfl, w⟩
      refine w_aload_n dX12_joins_145 rfl ?_
      refine w_iload_n dX12_joins_146 rfl ?_
      refine w_iload dX12_joins_147 rfl ?_
      refine w_bipush (v := 7) dX12_joins_149 rfl ?_
      refine w_iload dX12_joins_151 rfl ?_
      obtain ⟨e1, w⟩ := w
      refine w_callV (As := [.int l1, .int r21, .int 7, .int l4]) (st := []) dX12_joins_153 mt_X12_lays g_1432 g_1434 g_62 rfl e1 rfl rfl (Nat.le_of_ble_eq_true rfl) (Nat.le_refl _) ⟨Nat.le_refl _, Nat.le_refl _⟩ w ?_
      rintro v h30 ⟨rfl, w⟩
      refine w_aload_n dX12_joins_156 rfl ?_
      refine w_iload_n dX12_joins_157 rfl ?_
      refine w_iload dX12_joins_158 rfl ?_
      obtain ⟨e1, w⟩ := w
      refine w_callV (As := [.int l1, .int r21]) (st := []) dX12_joins_160 mt_X12_sifts g_1467 g_1469 g_70 rfl e1 rfl rfl (Nat.le_of_ble_eq_true rfl) (Nat.le_refl _) ⟨Nat.le_refl _, Nat.le_refl _⟩ w ?_
      rintro v h32 ⟨rfl, w⟩
      refine w_iload dX12_joins_163 rfl ?_
      refine v_istore (l' := [.ref l0, .int l1, .int l2, .null, .int r21, .int l5, .int r9, .int r11, .int r19, .int r21]) dX12_joins_165 (Nat.le_of_ble_eq_true rfl) rfl ?_
      refine w_goto (tgt := 18) dX12_joins_167 rfl ?_
      exact w_drop (l' := [.ref l0, .int l1, .int l2, .null, .int r21, .int l5, .null, .null, .null, .null]) ⟨Or.inr rfl, Or.inr rfl, Or.inr rfl, Or.inl rfl, Or.inr rfl, Or.inr rfl, Or.inl rfl, Or.inl rfl, Or.inl rfl, Or.inl rfl, trivial⟩ w
    · rw [if_neg c] at w
      refine w_aload_n dX12_joins_83 rfl ?_
      refine w_iload_n dX12_joins_84 rfl ?_
      refine w_iload dX12_joins_85 rfl ?_
      refine w_iconst (v := 1) dX12_joins_87 rfl ?_
      obtain ⟨e1, w⟩ := w
      refine w_callV (As := [.int l1, .int r11, .int 1]) (st := []) dX12_joins_88 mt_X12_nodeOf g_1420 g_1422 g_59 rfl e1 rfl rfl (Nat.le_of_ble_eq_true rfl) (Nat.le_refl _) ⟨Nat.le_refl _, Nat.le_refl _⟩ w ?_
      rintro v h34 ⟨r33, rfl, w⟩
      refine w_goto (tgt := 102) dX12_joins_91 rfl ?_
      refine v_istore (l' := [.ref l0, .int l1, .int l2, .null, .int l4, .int l5, .int r9, .int r11, .int r33, .null]) dX12_joins_102 (Nat.le_of_ble_eq_true rfl) rfl ?_
      refine w_aload_n dX12_joins_104 rfl ?_
      refine w_iload_n dX12_joins_105 rfl ?_
      obtain ⟨e1, w⟩ := w
      refine w_callV (As := [.int l1]) (st := []) dX12_joins_106 mt_X12_freeNode g_1416 g_1418 g_58 rfl e1 rfl rfl (Nat.le_of_ble_eq_true rfl) (Nat.le_refl _) ⟨Nat.le_refl _, Nat.le_refl _⟩ w ?_
      rintro v h36 ⟨r35, rfl, w⟩
      refine v_istore (l' := [.ref l0, .int l1, .int l2, .null, .int l4, .int l5, .int r9, .int r11, .int r33, .int r35]) dX12_joins_109 (Nat.le_of_ble_eq_true rfl) rfl ?_
      refine w_aload_n dX12_joins_111 rfl ?_
      refine w_iload_n dX12_joins_112 rfl ?_
      refine w_iload dX12_joins_113 rfl ?_
      refine w_iload dX12_joins_115 rfl ?_
      refine w_iconst (v := 1) dX12_joins_117 rfl ?_
      refine w_iadd dX12_joins_118 ?_
      refine w_aload_n dX12_joins_119 rfl ?_
      refine w_iload dX12_joins_120 rfl ?_
      refine w_iconst (v := 1) dX12_joins_122 rfl ?_
      refine w_iadd dX12_joins_123 ?_
      refine w_iload dX12_joins_124 rfl ?_
      refine w_iload dX12_joins_126 rfl ?_
      obtain ⟨e1, w⟩ := w
      refine w_callV (As := [.int (r9 + 1), .int r33, .int l5]) (st := [.int (r9 + 1), .int r35, .int l1, .ref l0]) dX12_joins_128 mt_X12_grows g_1456 g_1458 g_68 rfl e1 rfl rfl (Nat.le_of_ble_eq_true rfl) (Nat.le_refl _) ⟨Nat.le_refl _, Nat.le_refl _⟩ w ?_
      rintro v h38 ⟨r37, rfl, w⟩
      obtain ⟨e1, w⟩ := w
      refine w_callV (As := [.int l1, .int r35, .int (r9 + 1), .int r37]) (st := []) dX12_joins_131 mt_X12_makes g_1424 g_1426 g_60 rfl e1 rfl rfl (Nat.le_of_ble_eq_true rfl) (Nat.le_refl _) ⟨Nat.le_refl _, Nat.le_refl _⟩ w ?_
      rintro v h40 ⟨rfl, w⟩
      refine w_aload_n dX12_joins_134 rfl ?_
      refine w_iload_n dX12_joins_135 rfl ?_
      refine w_iload dX12_joins_136 rfl ?_
      refine w_bipush (v := 6) dX12_joins_138 rfl ?_
      refine w_iload dX12_joins_140 rfl ?_
      obtain ⟨e1, w⟩ := w
      refine w_callV (As := [.int l1, .int r35, .int 6, .int r11]) (st := []) dX12_joins_142 mt_X12_lays g_1432 g_1434 g_62 rfl e1 rfl rfl (Nat.le_of_ble_eq_true rfl) (Nat.le_refl _) ⟨Nat.le_refl _, Nat.le_refl _⟩ w ?_
      rintro v h42 ⟨rfl, w⟩
      refine w_aload_n dX12_joins_145 rfl ?_
      refine w_iload_n dX12_joins_146 rfl ?_
      refine w_iload dX12_joins_147 rfl ?_
      refine w_bipush (v := 7) dX12_joins_149 rfl ?_
      refine w_iload dX12_joins_151 rfl ?_
      obtain ⟨e1, w⟩ := w
      refine w_callV (As := [.int l1, .int r35, .int 7, .int l4]) (st := []) dX12_joins_153 mt_X12_lays g_1432 g_1434 g_62 rfl e1 rfl rfl (Nat.le_of_ble_eq_true rfl) (Nat.le_refl _) ⟨Nat.le_refl _, Nat.le_refl _⟩ w ?_
      rintro v h44 ⟨rfl, w⟩
      refine w_aload_n dX12_joins_156 rfl ?_
      refine w_iload_n dX12_joins_157 rfl ?_
      refine w_iload dX12_joins_158 rfl ?_
      obtain ⟨e1, w⟩ := w
      refine w_callV (As := [.int l1, .int r35]) (st := []) dX12_joins_160 mt_X12_sifts g_1467 g_1469 g_70 rfl e1 rfl rfl (Nat.le_of_ble_eq_true rfl) (Nat.le_refl _) ⟨Nat.le_refl _, Nat.le_refl _⟩ w ?_
      rintro v h46 ⟨rfl, w⟩
      refine w_iload dX12_joins_163 rfl ?_
      refine v_istore (l' := [.ref l0, .int l1, .int l2, .null, .int r35, .int l5, .int r9, .int r11, .int r33, .int r35]) dX12_joins_165 (Nat.le_of_ble_eq_true rfl) rfl ?_
      refine w_goto (tgt := 18) dX12_joins_167 rfl ?_
      exact w_drop (l' := [.ref l0, .int l1, .int l2, .null, .int r35, .int l5, .null, .null, .null, .null]) ⟨Or.inr rfl, Or.inr rfl, Or.inr rfl, Or.inl rfl, Or.inr rfl, Or.inr rfl, Or.inl rfl, Or.inl rfl, Or.inl rfl, Or.inl rfl, trivial⟩ w
set_option maxRecDepth 20000 in
set_option maxHeartbeats 4000000 in
theorem x_X12_puts {G : pm_G} {d : Nat} {post : pm_PT} {h : pm_H} {l0 : Nat} {l1 : Int32} {l2 : Int32} {l3 : Int32} (w :
    (h.1[l0]? = some (0, 11)) ∧
    ci G d m_X12_freeNode [.ref l0, .int l1] h fun r1 h2 =>
    (h2.1[l0]? = some (0, 11)) ∧
    cv G d m_X12_makes [.ref l0, .int l1, .int r1, .int 0, .int 1] h2 fun h4 =>
    (h4.1[l0]? = some (0, 11)) ∧
    ∃ n5 : Nat, h4.1[gp h4 l0 21]? = some (1, n5) ∧
    (vp_in l2 n5) ∧
    cv G d m_X12_lays [.ref l0, .int l1, .int r1, .int 2, .int (gi h4 (gp h4 l0 21) (l2 : Int32).toNatClampNeg)] h4 fun h7 =>
    (h7.1[l0]? = some (0, 11)) ∧
    cv G d m_X12_lays [.ref l0, .int l1, .int r1, .int 3, .int 1] h7 fun h9 =>
    (h9.1[l0]? = some (0, 11)) ∧
    cv G d m_X12_lays [.ref l0, .int l1, .int r1, .int 4, .int l2] h9 fun h11 =>
    (h11.1[l0]? = some (0, 11)) ∧
    cv G d m_X12_lays [.ref l0, .int l1, .int r1, .int 5, .int l2] h11 fun h13 =>
    (h13.1[l0]? = some (0, 11)) ∧
    ∃ n14 : Nat, h13.1[gp h13 l0 17]? = some (1, n14) ∧
    (vp_in ((l1 + 300) + l2) n14) ∧
    ∀ h15 : pm_H, h15 = si h13 (gp h13 l0 17) ((l1 + 300) + l2 : Int32).toNatClampNeg (-1) →
    ∃ n16 : Nat, h13.1[gp h15 l0 17]? = some (1, n16) ∧
    (vp_in ((l1 + 260) + l2) n16) ∧
    ∀ h17 : pm_H, h17 = si h15 (gp h15 l0 17) ((l1 + 260) + l2 : Int32).toNatClampNeg (-1) →
    ∃ n18 : Nat, h13.1[gp h17 l0 17]? = some (1, n18) ∧
    (vp_in ((l1 + 280) + l2) n18) ∧
    ∀ h19 : pm_H, h19 = si h17 (gp h17 l0 17) ((l1 + 280) + l2 : Int32).toNatClampNeg (-1) →
    cv G d m_X12_joins [.ref l0, .int l1, .int l3, .int r1] h19 fun h21 =>
    (h21.1[l0]? = some (0, 11)) ∧
    ∃ n22 : Nat, h21.1[gp h21 l0 17]? = some (1, n22) ∧
    (vp_in ((l1 + 240) + l2) n22) ∧
    ∀ h23 : pm_H, h23 = si h21 (gp h21 l0 17) ((l1 + 240) + l2 : Int32).toNatClampNeg l3 →
    post none h23) :
    Wp G (m_X12_puts, d + 1, 0, 0, post) (0, 0) 0 [.ref l0, .int l1, .int l2, .int l3, .null] [] h := by
  refine w_aload_n dX12_puts_0 rfl ?_
  refine w_iload_n dX12_puts_1 rfl ?_
  obtain ⟨e1, w⟩ := w
  refine w_callV (As := [.int l1]) (st := []) dX12_puts_2 mt_X12_freeNode g_1416 g_1418 g_58 rfl e1 rfl rfl (Nat.le_of_ble_eq_true rfl) (Nat.le_refl _) ⟨Nat.le_refl _, Nat.le_refl _⟩ w ?_
  rintro v h2 ⟨r1, rfl, w⟩
  refine v_istore (l' := [.ref l0, .int l1, .int l2, .int l3, .int r1]) dX12_puts_5 (Nat.le_of_ble_eq_true rfl) rfl ?_
  refine w_aload_n dX12_puts_7 rfl ?_
  refine w_iload_n dX12_puts_8 rfl ?_
  refine w_iload dX12_puts_9 rfl ?_
  refine w_iconst (v := 0) dX12_puts_11 rfl ?_
  refine w_iconst (v := 1) dX12_puts_12 rfl ?_
  obtain ⟨e1, w⟩ := w
  refine w_callV (As := [.int l1, .int r1, .int 0, .int 1]) (st := []) dX12_puts_13 mt_X12_makes g_1424 g_1426 g_60 rfl e1 rfl rfl (Nat.le_of_ble_eq_true rfl) (Nat.le_refl _) ⟨Nat.le_refl _, Nat.le_refl _⟩ w ?_
  rintro v h4 ⟨rfl, w⟩
  refine w_aload_n dX12_puts_16 rfl ?_
  refine w_iload_n dX12_puts_17 rfl ?_
  refine w_iload dX12_puts_18 rfl ?_
  refine w_iconst (v := 2) dX12_puts_20 rfl ?_
  refine w_aload_n dX12_puts_21 rfl ?_
  obtain ⟨e1, w⟩ := w
  refine w_getp dX12_puts_22 lk_RX12_104 e1 rfl ?_
  refine w_iload_n dX12_puts_25 rfl ?_
  obtain ⟨n5, ln5, w⟩ := w
  obtain ⟨e3, w⟩ := w
  refine w_iald dX12_puts_26 ln5 e3 ?_
  refine w_callV (As := [.int l1, .int r1, .int 2, .int (gi h4 (gp h4 l0 21) (l2 : Int32).toNatClampNeg)]) (st := []) dX12_puts_27 mt_X12_lays g_1432 g_1434 g_62 rfl e1 rfl rfl (Nat.le_of_ble_eq_true rfl) (Nat.le_refl _) ⟨Nat.le_refl _, Nat.le_refl _⟩ w ?_
  rintro v h7 ⟨rfl, w⟩
  refine w_aload_n dX12_puts_30 rfl ?_
  refine w_iload_n dX12_puts_31 rfl ?_
  refine w_iload dX12_puts_32 rfl ?_
  refine w_iconst (v := 3) dX12_puts_34 rfl ?_
  refine w_iconst (v := 1) dX12_puts_35 rfl ?_
  obtain ⟨e1, w⟩ := w
  refine w_callV (As := [.int l1, .int r1, .int 3, .int 1]) (st := []) dX12_puts_36 mt_X12_lays g_1432 g_1434 g_62 rfl e1 rfl rfl (Nat.le_of_ble_eq_true rfl) (Nat.le_refl _) ⟨Nat.le_refl _, Nat.le_refl _⟩ w ?_
  rintro v h9 ⟨rfl, w⟩
  refine w_aload_n dX12_puts_39 rfl ?_
  refine w_iload_n dX12_puts_40 rfl ?_
  refine w_iload dX12_puts_41 rfl ?_
  refine w_iconst (v := 4) dX12_puts_43 rfl ?_
  refine w_iload_n dX12_puts_44 rfl ?_
  obtain ⟨e1, w⟩ := w
  refine w_callV (As := [.int l1, .int r1, .int 4, .int l2]) (st := []) dX12_puts_45 mt_X12_lays g_1432 g_1434 g_62 rfl e1 rfl rfl (Nat.le_of_ble_eq_true rfl) (Nat.le_refl _) ⟨Nat.le_refl _, Nat.le_refl _⟩ w ?_
  rintro v h11 ⟨rfl, w⟩
  refine w_aload_n dX12_puts_48 rfl ?_
  refine w_iload_n dX12_puts_49 rfl ?_
  refine w_iload dX12_puts_50 rfl ?_
  refine w_iconst (v := 5) dX12_puts_52 rfl ?_
  refine w_iload_n dX12_puts_53 rfl ?_
  obtain ⟨e1, w⟩ := w
  refine w_callV (As := [.int l1, .int r1, .int 5, .int l2]) (st := []) dX12_puts_54 mt_X12_lays g_1432 g_1434 g_62 rfl e1 rfl rfl (Nat.le_of_ble_eq_true rfl) (Nat.le_refl _) ⟨Nat.le_refl _, Nat.le_refl _⟩ w ?_
  rintro v h13 ⟨rfl, w⟩
  refine w_aload_n dX12_puts_57 rfl ?_
  obtain ⟨e1, w⟩ := w
  refine w_getp dX12_puts_58 lk_RX12_97 e1 rfl ?_
  refine w_iload_n dX12_puts_61 rfl ?_
  refine w_sipush (v := 300) dX12_puts_62 rfl ?_
  refine w_iadd dX12_puts_65 ?_
  refine w_iload_n dX12_puts_66 rfl ?_
  refine w_iadd dX12_puts_67 ?_
  refine w_iconst (v := (-1)) dX12_puts_68 rfl ?_
  obtain ⟨n14, ln14, w⟩ := w
  obtain ⟨e3, w⟩ := w
  refine w_iast dX12_puts_69 ln14 e3 ?_
  have w := w _ rfl
  refine w_aload_n dX12_puts_70 rfl ?_
  refine w_getp dX12_puts_71 lk_RX12_97 e1 rfl ?_
  refine w_iload_n dX12_puts_74 rfl ?_
  refine w_sipush (v := 260) dX12_puts_75 rfl ?_
  refine w_iadd dX12_puts_78 ?_
  refine w_iload_n dX12_puts_79 rfl ?_
  refine w_iadd dX12_puts_80 ?_
  refine w_iconst (v := (-1)) dX12_puts_81 rfl ?_
  obtain ⟨n16, ln16, w⟩ := w
  obtain ⟨e5, w⟩ := w
  refine w_iast dX12_puts_82 ln16 e5 ?_
  have w := w _ rfl
  refine w_aload_n dX12_puts_83 rfl ?_
  refine w_getp dX12_puts_84 lk_RX12_97 e1 rfl ?_
  refine w_iload_n dX12_puts_87 rfl ?_
  refine w_sipush (v := 280) dX12_puts_88 rfl ?_
  refine w_iadd dX12_puts_91 ?_
  refine w_iload_n dX12_puts_92 rfl ?_
  refine w_iadd dX12_puts_93 ?_
  refine w_iconst (v := (-1)) dX12_puts_94 rfl ?_
  obtain ⟨n18, ln18, w⟩ := w
  obtain ⟨e7, w⟩ := w
  refine w_iast dX12_puts_95 ln18 e7 ?_
  have w := w _ rfl
  refine w_aload_n dX12_puts_96 rfl ?_
  refine w_iload_n dX12_puts_97 rfl ?_
  refine w_iload_n dX12_puts_98 rfl ?_
  refine w_iload dX12_puts_99 rfl ?_
  refine w_callV (As := [.int l1, .int l3, .int r1]) (st := []) dX12_puts_101 mt_X12_joins g_1436 g_1438 g_63 rfl e1 rfl rfl (Nat.le_of_ble_eq_true rfl) (Nat.le_refl _) ⟨Nat.le_refl _, Nat.le_refl _⟩ w ?_
  rintro v h21 ⟨rfl, w⟩
  refine w_aload_n dX12_puts_104 rfl ?_
  obtain ⟨e1, w⟩ := w
  refine w_getp dX12_puts_105 lk_RX12_97 e1 rfl ?_
  refine w_iload_n dX12_puts_108 rfl ?_
  refine w_sipush (v := 240) dX12_puts_109 rfl ?_
  refine w_iadd dX12_puts_112 ?_
  refine w_iload_n dX12_puts_113 rfl ?_
  refine w_iadd dX12_puts_114 ?_
  refine w_iload_n dX12_puts_115 rfl ?_
  obtain ⟨n22, ln22, w⟩ := w
  obtain ⟨e3, w⟩ := w
  refine w_iast dX12_puts_116 ln22 e3 ?_
  have w := w _ rfl
  exact w_return dX12_puts_117 rfl ⟨Nat.le_refl _, Nat.le_refl _⟩ w
set_option maxRecDepth 20000 in
set_option maxHeartbeats 4000000 in
theorem x_X12_melds {G : pm_G} {d : Nat} {post : pm_PT} {h : pm_H} {l0 : Nat} {l1 : Int32} {l2 : Int32} {l3 : Int32} (w :
    Wp G (m_X12_melds, d + 1, 0, 0, post) (0, 0) 3 [.ref l0, .int l1, .int l2, .int l3, .int 0, .null] [] h) :
    Wp G (m_X12_melds, d + 1, 0, 0, post) (0, 0) 0 [.ref l0, .int l1, .int l2, .int l3, .null, .null] [] h := by
  refine w_iconst (v := 0) dX12_melds_0 rfl ?_
  refine v_istore (l' := [.ref l0, .int l1, .int l2, .int l3, .int 0, .null]) dX12_melds_1 (Nat.le_of_ble_eq_true rfl) rfl ?_
  exact w
set_option maxRecDepth 20000 in
set_option maxHeartbeats 4000000 in
theorem x_X12_melds_3 {G : pm_G} {d : Nat} {post : pm_PT} {h : pm_H} {l0 : Nat} {l1 : Int32} {l2 : Int32} {l3 : Int32} {l4 : Int32} (w :
    if 16 ≤ l4 then (
      Wp G (m_X12_melds, d + 1, 0, 0, post) (0, 0) 51 [.ref l0, .int l1, .int l2, .int l3, .int 0, .null] [] h
    ) else (
      (h.1[l0]? = some (0, 11)) ∧
      ci G d m_X12_rootAt [.ref l0, .int l1, .int l2, .int l4] h fun r1 h2 =>
      if r1 < 0 then (
        Wp G (m_X12_melds, d + 1, 0, 0, post) (0, 0) 3 [.ref l0, .int l1, .int l2, .int l3, .int (l4 + 1), .null] [] h2
      ) else (
        (h2.1[l0]? = some (0, 11)) ∧
        cv G d m_X12_roots [.ref l0, .int l1, .int l2, .int l4, .int (-1)] h2 fun h4 =>
        (h4.1[l0]? = some (0, 11)) ∧
        cv G d m_X12_joins [.ref l0, .int l1, .int l3, .int r1] h4 fun h6 =>
        Wp G (m_X12_melds, d + 1, 0, 0, post) (0, 0) 3 [.ref l0, .int l1, .int l2, .int l3, .int (l4 + 1), .null] [] h6
      )
    )) :
    Wp G (m_X12_melds, d + 1, 0, 0, post) (0, 0) 3 [.ref l0, .int l1, .int l2, .int l3, .int l4, .null] [] h := by
  refine w_iload dX12_melds_3 rfl ?_
  refine w_bipush (v := 16) dX12_melds_5 rfl ?_
  refine w_ic_ge (tgt := 48) dX12_melds_7 rfl (fun c => ?_) (fun c => ?_)
  · rw [if_pos c] at w
    refine w_iconst (v := 0) dX12_melds_48 rfl ?_
    refine v_istore (l' := [.ref l0, .int l1, .int l2, .int l3, .int 0, .null]) dX12_melds_49 (Nat.le_of_ble_eq_true rfl) rfl ?_
    exact w
  · rw [if_neg c] at w
    refine w_aload_n dX12_melds_10 rfl ?_
    refine w_iload_n dX12_melds_11 rfl ?_
    refine w_iload_n dX12_melds_12 rfl ?_
    refine w_iload dX12_melds_13 rfl ?_
    obtain ⟨e1, w⟩ := w
    refine w_callV (As := [.int l1, .int l2, .int l4]) (st := []) dX12_melds_15 mt_X12_rootAt g_1444 g_1446 g_65 rfl e1 rfl rfl (Nat.le_of_ble_eq_true rfl) (Nat.le_refl _) ⟨Nat.le_refl _, Nat.le_refl _⟩ w ?_
    rintro v h2 ⟨r1, rfl, w⟩
    refine v_istore (l' := [.ref l0, .int l1, .int l2, .int l3, .int l4, .int r1]) dX12_melds_18 (Nat.le_of_ble_eq_true rfl) rfl ?_
    refine w_iload dX12_melds_20 rfl ?_
    refine w_if_lt (tgt := 42) dX12_melds_22 rfl (fun c => ?_) (fun c => ?_)
    · rw [if_pos c] at w
      refine v_iinc (l' := [.ref l0, .int l1, .int l2, .int l3, .int (l4 + 1), .int r1]) (v := l4 + 1) dX12_melds_42 rfl rfl (Nat.le_of_ble_eq_true rfl) rfl ?_
      refine w_goto (tgt := 3) dX12_melds_45 rfl ?_
      exact w_drop (l' := [.ref l0, .int l1, .int l2, .int l3, .int (l4 + 1), .null]) ⟨Or.inr rfl, Or.inr rfl, Or.inr rfl, Or.inr rfl, Or.inr rfl, Or.inl rfl, trivial⟩ w
    · rw [if_neg c] at w
      refine w_aload_n dX12_melds_25 rfl ?_
      refine w_iload_n dX12_melds_26 rfl ?_
      refine w_iload_n dX12_melds_27 rfl ?_
      refine w_iload dX12_melds_28 rfl ?_
      refine w_iconst (v := (-1)) dX12_melds_30 rfl ?_
      obtain ⟨e1, w⟩ := w
      refine w_callV (As := [.int l1, .int l2, .int l4, .int (-1)]) (st := []) dX12_melds_31 mt_X12_roots g_1452 g_1454 g_67 rfl e1 rfl rfl (Nat.le_of_ble_eq_true rfl) (Nat.le_refl _) ⟨Nat.le_refl _, Nat.le_refl _⟩ w ?_
      rintro v h4 ⟨rfl, w⟩
      refine w_aload_n dX12_melds_34 rfl ?_
      refine w_iload_n dX12_melds_35 rfl ?_
      refine w_iload_n dX12_melds_36 rfl ?_
      refine w_iload dX12_melds_37 rfl ?_
      obtain ⟨e1, w⟩ := w
      refine w_callV (As := [.int l1, .int l3, .int r1]) (st := []) dX12_melds_39 mt_X12_joins g_1436 g_1438 g_63 rfl e1 rfl rfl (Nat.le_of_ble_eq_true rfl) (Nat.le_refl _) ⟨Nat.le_refl _, Nat.le_refl _⟩ w ?_
      rintro v h6 ⟨rfl, w⟩
      refine v_iinc (l' := [.ref l0, .int l1, .int l2, .int l3, .int (l4 + 1), .int r1]) (v := l4 + 1) dX12_melds_42 rfl rfl (Nat.le_of_ble_eq_true rfl) rfl ?_
      refine w_goto (tgt := 3) dX12_melds_45 rfl ?_
      exact w_drop (l' := [.ref l0, .int l1, .int l2, .int l3, .int (l4 + 1), .null]) ⟨Or.inr rfl, Or.inr rfl, Or.inr rfl, Or.inr rfl, Or.inr rfl, Or.inl rfl, trivial⟩ w
set_option maxRecDepth 20000 in
set_option maxHeartbeats 4000000 in
theorem x_X12_melds_51 {G : pm_G} {d : Nat} {post : pm_PT} {h : pm_H} {l0 : Nat} {l1 : Int32} {l2 : Int32} {l3 : Int32} {l4 : Int32} (w :
    (h.1[l0]? = some (0, 11)) ∧
    ci G d m_X12_items [.ref l0] h fun r1 h2 =>
    if r1 ≤ l4 then (
      post none h2
    ) else (
      (h2.1[l0]? = some (0, 11)) ∧
      ∃ n3 : Nat, h2.1[gp h2 l0 17]? = some (1, n3) ∧
      (vp_in ((l1 + 240) + l4) n3) ∧
      if (gi h2 (gp h2 l0 17) ((l1 + 240) + l4 : Int32).toNatClampNeg) = l2 then (
        ∀ h4 : pm_H, h4 = si h2 (gp h2 l0 17) ((l1 + 240) + l4 : Int32).toNatClampNeg l3 →
        Wp G (m_X12_melds, d + 1, 0, 0, post) (0, 0) 51 [.ref l0, .int l1, .int l2, .int l3, .int (l4 + 1), .null] [] h4
      ) else (
        ∀ h5 : pm_H, h5 = si h2 (gp h2 l0 17) ((l1 + 240) + l4 : Int32).toNatClampNeg (gi h2 (gp h2 l0 17) ((l1 + 240) + l4 : Int32).toNatClampNeg) →
        Wp G (m_X12_melds, d + 1, 0, 0, post) (0, 0) 51 [.ref l0, .int l1, .int l2, .int l3, .int (l4 + 1), .null] [] h5
      )
    )) :
    Wp G (m_X12_melds, d + 1, 0, 0, post) (0, 0) 51 [.ref l0, .int l1, .int l2, .int l3, .int l4, .null] [] h := by
  refine w_iload dX12_melds_51 rfl ?_
  refine w_aload_n dX12_melds_53 rfl ?_
  obtain ⟨e1, w⟩ := w
  refine w_callV (As := []) (st := [.int l4]) dX12_melds_54 mt_X12_items g_1363 g_1365 g_52 rfl e1 rfl rfl (Nat.le_of_ble_eq_true rfl) (Nat.le_refl _) ⟨Nat.le_refl _, Nat.le_refl _⟩ w ?_
  rintro v h2 ⟨r1, rfl, w⟩
  refine w_ic_ge (tgt := 113) dX12_melds_57 rfl (fun c => ?_) (fun c => ?_)
  · rw [if_pos c] at w
    exact w_return dX12_melds_113 rfl ⟨Nat.le_refl _, Nat.le_refl _⟩ w
  · rw [if_neg c] at w
    refine w_aload_n dX12_melds_60 rfl ?_
    obtain ⟨e1, w⟩ := w
    refine w_getp dX12_melds_61 lk_RX12_97 e1 rfl ?_
    refine w_iload_n dX12_melds_64 rfl ?_
    refine w_sipush (v := 240) dX12_melds_65 rfl ?_
    refine w_iadd dX12_melds_68 ?_
    refine w_iload dX12_melds_69 rfl ?_
    refine w_iadd dX12_melds_71 ?_
    refine w_aload_n dX12_melds_72 rfl ?_
    refine w_getp dX12_melds_73 lk_RX12_97 e1 rfl ?_
    refine w_iload_n dX12_melds_76 rfl ?_
    refine w_sipush (v := 240) dX12_melds_77 rfl ?_
    refine w_iadd dX12_melds_80 ?_
    refine w_iload dX12_melds_81 rfl ?_
    refine w_iadd dX12_melds_83 ?_
    obtain ⟨n3, ln3, w⟩ := w
    obtain ⟨e3, w⟩ := w
    refine w_iald dX12_melds_84 ln3 e3 ?_
    refine w_iload_n dX12_melds_85 rfl ?_
    refine w_ic_ne (tgt := 93) dX12_melds_86 rfl (fun c => ?_) (fun c => ?_)
    · rw [if_neg c] at w
      refine w_aload_n dX12_melds_93 rfl ?_
      refine w_getp dX12_melds_94 lk_RX12_97 e1 rfl ?_
      refine w_iload_n dX12_melds_97 rfl ?_
      refine w_sipush (v := 240) dX12_melds_98 rfl ?_
      refine w_iadd dX12_melds_101 ?_
      refine w_iload dX12_melds_102 rfl ?_
      refine w_iadd dX12_melds_104 ?_
      refine w_iald dX12_melds_105 ln3 e3 ?_
      refine w_iast dX12_melds_106 ln3 e3 ?_
      have w := w _ rfl
      refine v_iinc (l' := [.ref l0, .int l1, .int l2, .int l3, .int (l4 + 1), .null]) (v := l4 + 1) dX12_melds_107 rfl rfl (Nat.le_of_ble_eq_true rfl) rfl ?_
      refine w_goto (tgt := 51) dX12_melds_110 rfl ?_
      exact w
    · rw [if_pos c] at w
      refine w_iload_n dX12_melds_89 rfl ?_
      refine w_goto (tgt := 106) dX12_melds_90 rfl ?_
      refine w_iast dX12_melds_106 ln3 e3 ?_
      have w := w _ rfl
      refine v_iinc (l' := [.ref l0, .int l1, .int l2, .int l3, .int (l4 + 1), .null]) (v := l4 + 1) dX12_melds_107 rfl rfl (Nat.le_of_ble_eq_true rfl) rfl ?_
      refine w_goto (tgt := 51) dX12_melds_110 rfl ?_
      exact w
set_option maxRecDepth 20000 in
set_option maxHeartbeats 4000000 in
theorem x_X12_nextRoot {G : pm_G} {d : Nat} {post : pm_PT} {h : pm_H} {l0 : Nat} {l1 : Int32} {l2 : Int32} (w :
    Wp G (m_X12_nextRoot, d + 1, 0, 0, post) (0, 0) 5 [.ref l0, .int l1, .int l2, .int (-1), .int 0, .null] [] h) :
    Wp G (m_X12_nextRoot, d + 1, 0, 0, post) (0, 0) 0 [.ref l0, .int l1, .int l2, .null, .null, .null] [] h := by
  refine w_iconst (v := (-1)) dX12_nextRoot_0 rfl ?_
  refine v_istore_n (l' := [.ref l0, .int l1, .int l2, .int (-1), .null, .null]) dX12_nextRoot_1 (Nat.le_of_ble_eq_true rfl) rfl ?_
  refine w_iconst (v := 0) dX12_nextRoot_2 rfl ?_
  refine v_istore (l' := [.ref l0, .int l1, .int l2, .int (-1), .int 0, .null]) dX12_nextRoot_3 (Nat.le_of_ble_eq_true rfl) rfl ?_
  exact w
set_option maxRecDepth 20000 in
set_option maxHeartbeats 4000000 in
theorem x_X12_nextRoot_5 {G : pm_G} {d : Nat} {post : pm_PT} {h : pm_H} {l0 : Nat} {l1 : Int32} {l2 : Int32} {l3 : Int32} {l4 : Int32} (w :
    if 16 ≤ l4 then (
      post (some (.int l3)) h
    ) else (
      (h.1[l0]? = some (0, 11)) ∧
      ci G d m_X12_rootAt [.ref l0, .int l1, .int l2, .int l4] h fun r1 h2 =>
      if r1 < 0 then (
        Wp G (m_X12_nextRoot, d + 1, 0, 0, post) (0, 0) 5 [.ref l0, .int l1, .int l2, .int l3, .int (l4 + 1), .null] [] h2
      ) else (
        if l3 < 0 then (
          Wp G (m_X12_nextRoot, d + 1, 0, 0, post) (0, 0) 5 [.ref l0, .int l1, .int l2, .int r1, .int (l4 + 1), .null] [] h2
        ) else (
          (h2.1[l0]? = some (0, 11)) ∧
          ci G d m_X12_nodeOf [.ref l0, .int l1, .int r1, .int 2] h2 fun r3 h4 =>
          (h4.1[l0]? = some (0, 11)) ∧
          ci G d m_X12_nodeOf [.ref l0, .int l1, .int l3, .int 2] h4 fun r5 h6 =>
          if r5 ≤ r3 then (
            Wp G (m_X12_nextRoot, d + 1, 0, 0, post) (0, 0) 5 [.ref l0, .int l1, .int l2, .int l3, .int (l4 + 1), .null] [] h6
          ) else (
            Wp G (m_X12_nextRoot, d + 1, 0, 0, post) (0, 0) 5 [.ref l0, .int l1, .int l2, .int r1, .int (l4 + 1), .null] [] h6
          )
        )
      )
    )) :
    Wp G (m_X12_nextRoot, d + 1, 0, 0, post) (0, 0) 5 [.ref l0, .int l1, .int l2, .int l3, .int l4, .null] [] h := by
  refine w_iload dX12_nextRoot_5 rfl ?_
  refine w_bipush (v := 16) dX12_nextRoot_7 rfl ?_
  refine w_ic_ge (tgt := 62) dX12_nextRoot_9 rfl (fun c => ?_) (fun c => ?_)
  · rw [if_pos c] at w
    refine w_iload_n dX12_nextRoot_62 rfl ?_
    exact w_ireturn dX12_nextRoot_63 rfl rfl ⟨Nat.le_refl _, Nat.le_refl _⟩ w
  · rw [if_neg c] at w
    refine w_aload_n dX12_nextRoot_12 rfl ?_
    refine w_iload_n dX12_nextRoot_13 rfl ?_
    refine w_iload_n dX12_nextRoot_14 rfl ?_
    refine w_iload dX12_nextRoot_15 rfl ?_
    obtain ⟨e1, w⟩ := w
    refine w_callV (As := [.int l1, .int l2, .int l4]) (st := []) dX12_nextRoot_17 mt_X12_rootAt g_1444 g_1446 g_65 rfl e1 rfl rfl (Nat.le_of_ble_eq_true rfl) (Nat.le_refl _) ⟨Nat.le_refl _, Nat.le_refl _⟩ w ?_
    rintro v h2 ⟨r1, rfl, w⟩
    refine v_istore (l' := [.ref l0, .int l1, .int l2, .int l3, .int l4, .int r1]) dX12_nextRoot_20 (Nat.le_of_ble_eq_true rfl) rfl ?_
    refine w_iload dX12_nextRoot_22 rfl ?_
    refine w_if_lt (tgt := 54) dX12_nextRoot_24 rfl (fun c => ?_) (fun c => ?_)
    · rw [if_pos c] at w
      refine w_iload_n dX12_nextRoot_54 rfl ?_
      refine v_istore_n (l' := [.ref l0, .int l1, .int l2, .int l3, .int l4, .int r1]) dX12_nextRoot_55 (Nat.le_of_ble_eq_true rfl) rfl ?_
      refine v_iinc (l' := [.ref l0, .int l1, .int l2, .int l3, .int (l4 + 1), .int r1]) (v := l4 + 1) dX12_nextRoot_56 rfl rfl (Nat.le_of_ble_eq_true rfl) rfl ?_
      refine w_goto (tgt := 5) dX12_nextRoot_59 rfl ?_
      exact w_drop (l' := [.ref l0, .int l1, .int l2, .int l3, .int (l4 + 1), .null]) ⟨Or.inr rfl, Or.inr rfl, Or.inr rfl, Or.inr rfl, Or.inr rfl, Or.inl rfl, trivial⟩ w
    · rw [if_neg c] at w
      refine w_iload_n dX12_nextRoot_27 rfl ?_
      refine w_if_lt (tgt := 49) dX12_nextRoot_28 rfl (fun c => ?_) (fun c => ?_)
      · rw [if_pos c] at w
        refine w_iload dX12_nextRoot_49 rfl ?_
        refine w_goto (tgt := 55) dX12_nextRoot_51 rfl ?_
        refine v_istore_n (l' := [.ref l0, .int l1, .int l2, .int r1, .int l4, .int r1]) dX12_nextRoot_55 (Nat.le_of_ble_eq_true rfl) rfl ?_
        refine v_iinc (l' := [.ref l0, .int l1, .int l2, .int r1, .int (l4 + 1), .int r1]) (v := l4 + 1) dX12_nextRoot_56 rfl rfl (Nat.le_of_ble_eq_true rfl) rfl ?_
        refine w_goto (tgt := 5) dX12_nextRoot_59 rfl ?_
        exact w_drop (l' := [.ref l0, .int l1, .int l2, .int r1, .int (l4 + 1), .null]) ⟨Or.inr rfl, Or.inr rfl, Or.inr rfl, Or.inr rfl, Or.inr rfl, Or.inl rfl, trivial⟩ w
      · rw [if_neg c] at w
        refine w_aload_n dX12_nextRoot_31 rfl ?_
        refine w_iload_n dX12_nextRoot_32 rfl ?_
        refine w_iload dX12_nextRoot_33 rfl ?_
        refine w_iconst (v := 2) dX12_nextRoot_35 rfl ?_
        obtain ⟨e1, w⟩ := w
        refine w_callV (As := [.int l1, .int r1, .int 2]) (st := []) dX12_nextRoot_36 mt_X12_nodeOf g_1420 g_1422 g_59 rfl e1 rfl rfl (Nat.le_of_ble_eq_true rfl) (Nat.le_refl _) ⟨Nat.le_refl _, Nat.le_refl _⟩ w ?_
        rintro v h4 ⟨r3, rfl, w⟩
        refine w_aload_n dX12_nextRoot_39 rfl ?_
        refine w_iload_n dX12_nextRoot_40 rfl ?_
        refine w_iload_n dX12_nextRoot_41 rfl ?_
        refine w_iconst (v := 2) dX12_nextRoot_42 rfl ?_
        obtain ⟨e1, w⟩ := w
        refine w_callV (As := [.int l1, .int l3, .int 2]) (st := [.int r3]) dX12_nextRoot_43 mt_X12_nodeOf g_1420 g_1422 g_59 rfl e1 rfl rfl (Nat.le_of_ble_eq_true rfl) (Nat.le_refl _) ⟨Nat.le_refl _, Nat.le_refl _⟩ w ?_
        rintro v h6 ⟨r5, rfl, w⟩
        refine w_ic_ge (tgt := 54) dX12_nextRoot_46 rfl (fun c => ?_) (fun c => ?_)
        · rw [if_pos c] at w
          refine w_iload_n dX12_nextRoot_54 rfl ?_
          refine v_istore_n (l' := [.ref l0, .int l1, .int l2, .int l3, .int l4, .int r1]) dX12_nextRoot_55 (Nat.le_of_ble_eq_true rfl) rfl ?_
          refine v_iinc (l' := [.ref l0, .int l1, .int l2, .int l3, .int (l4 + 1), .int r1]) (v := l4 + 1) dX12_nextRoot_56 rfl rfl (Nat.le_of_ble_eq_true rfl) rfl ?_
          refine w_goto (tgt := 5) dX12_nextRoot_59 rfl ?_
          exact w_drop (l' := [.ref l0, .int l1, .int l2, .int l3, .int (l4 + 1), .null]) ⟨Or.inr rfl, Or.inr rfl, Or.inr rfl, Or.inr rfl, Or.inr rfl, Or.inl rfl, trivial⟩ w
        · rw [if_neg c] at w
          refine w_iload dX12_nextRoot_49 rfl ?_
          refine w_goto (tgt := 55) dX12_nextRoot_51 rfl ?_
          refine v_istore_n (l' := [.ref l0, .int l1, .int l2, .int r1, .int l4, .int r1]) dX12_nextRoot_55 (Nat.le_of_ble_eq_true rfl) rfl ?_
          refine v_iinc (l' := [.ref l0, .int l1, .int l2, .int r1, .int (l4 + 1), .int r1]) (v := l4 + 1) dX12_nextRoot_56 rfl rfl (Nat.le_of_ble_eq_true rfl) rfl ?_
          refine w_goto (tgt := 5) dX12_nextRoot_59 rfl ?_
          exact w_drop (l' := [.ref l0, .int l1, .int l2, .int r1, .int (l4 + 1), .null]) ⟨Or.inr rfl, Or.inr rfl, Or.inr rfl, Or.inr rfl, Or.inr rfl, Or.inl rfl, trivial⟩ w
set_option maxRecDepth 20000 in
set_option maxHeartbeats 4000000 in
theorem x_X12_takes {G : pm_G} {d : Nat} {post : pm_PT} {h : pm_H} {l0 : Nat} {l1 : Int32} {l2 : Int32} (w :
    (h.1[l0]? = some (0, 11)) ∧
    ci G d m_X12_nextRoot [.ref l0, .int l1, .int l2] h fun r1 h2 =>
    if 0 ≤ r1 then (
      (h2.1[l0]? = some (0, 11)) ∧
      ci G d m_X12_nodeOf [.ref l0, .int l1, .int r1, .int 4] h2 fun r3 h4 =>
      (h4.1[l0]? = some (0, 11)) ∧
      ∃ n5 : Nat, h4.1[gp h4 l0 17]? = some (1, n5) ∧
      (vp_in ((l1 + 300) + r3) n5) ∧
      cv G d m_X12_lays [.ref l0, .int l1, .int r1, .int 4, .int (gi h4 (gp h4 l0 17) ((l1 + 300) + r3 : Int32).toNatClampNeg)] h4 fun h7 =>
      (h7.1[l0]? = some (0, 11)) ∧
      ci G d m_X12_nodeOf [.ref l0, .int l1, .int r1, .int 3] h7 fun r8 h9 =>
      (h9.1[l0]? = some (0, 11)) ∧
      cv G d m_X12_lays [.ref l0, .int l1, .int r1, .int 3, .int (r8 - 1)] h9 fun h11 =>
      (h11.1[l0]? = some (0, 11)) ∧
      ci G d m_X12_nodeOf [.ref l0, .int l1, .int r1, .int 3] h11 fun r12 h13 =>
      if r12 = 0 then (
        (h13.1[l0]? = some (0, 11)) ∧
        cv G d m_X12_lays [.ref l0, .int l1, .int r1, .int 5, .int (-1)] h13 fun h15 =>
        Wp G (m_X12_takes, d + 1, 0, 0, post) (0, 0) 76 [.ref l0, .int l1, .int l2, .int r1, .int r3] [] h15
      ) else (
        Wp G (m_X12_takes, d + 1, 0, 0, post) (0, 0) 76 [.ref l0, .int l1, .int l2, .int r1, .int r3] [] h13
      )
    ) else (
      post (some (.int (-1))) h2
    )) :
    Wp G (m_X12_takes, d + 1, 0, 0, post) (0, 0) 0 [.ref l0, .int l1, .int l2, .null, .null] [] h := by
  refine w_aload_n dX12_takes_0 rfl ?_
  refine w_iload_n dX12_takes_1 rfl ?_
  refine w_iload_n dX12_takes_2 rfl ?_
  obtain ⟨e1, w⟩ := w
  refine w_callV (As := [.int l1, .int l2]) (st := []) dX12_takes_3 mt_X12_nextRoot g_1711 g_1713 g_104 rfl e1 rfl rfl (Nat.le_of_ble_eq_true rfl) (Nat.le_refl _) ⟨Nat.le_refl _, Nat.le_refl _⟩ w ?_
  rintro v h2 ⟨r1, rfl, w⟩
  refine v_istore_n (l' := [.ref l0, .int l1, .int l2, .int r1, .null]) dX12_takes_6 (Nat.le_of_ble_eq_true rfl) rfl ?_
  refine w_iload_n dX12_takes_7 rfl ?_
  refine w_if_ge (tgt := 13) dX12_takes_8 rfl (fun c => ?_) (fun c => ?_)
  · rw [if_pos c] at w
    refine w_aload_n dX12_takes_13 rfl ?_
    refine w_iload_n dX12_takes_14 rfl ?_
    refine w_iload_n dX12_takes_15 rfl ?_
    refine w_iconst (v := 4) dX12_takes_16 rfl ?_
    obtain ⟨e1, w⟩ := w
    refine w_callV (As := [.int l1, .int r1, .int 4]) (st := []) dX12_takes_17 mt_X12_nodeOf g_1420 g_1422 g_59 rfl e1 rfl rfl (Nat.le_of_ble_eq_true rfl) (Nat.le_refl _) ⟨Nat.le_refl _, Nat.le_refl _⟩ w ?_
    rintro v h4 ⟨r3, rfl, w⟩
    refine v_istore (l' := [.ref l0, .int l1, .int l2, .int r1, .int r3]) dX12_takes_20 (Nat.le_of_ble_eq_true rfl) rfl ?_
    refine w_aload_n dX12_takes_22 rfl ?_
    refine w_iload_n dX12_takes_23 rfl ?_
    refine w_iload_n dX12_takes_24 rfl ?_
    refine w_iconst (v := 4) dX12_takes_25 rfl ?_
    refine w_aload_n dX12_takes_26 rfl ?_
    obtain ⟨e1, w⟩ := w
    refine w_getp dX12_takes_27 lk_RX12_97 e1 rfl ?_
    refine w_iload_n dX12_takes_30 rfl ?_
    refine w_sipush (v := 300) dX12_takes_31 rfl ?_
    refine w_iadd dX12_takes_34 ?_
    refine w_iload dX12_takes_35 rfl ?_
    refine w_iadd dX12_takes_37 ?_
    obtain ⟨n5, ln5, w⟩ := w
    obtain ⟨e3, w⟩ := w
    refine w_iald dX12_takes_38 ln5 e3 ?_
    refine w_callV (As := [.int l1, .int r1, .int 4, .int (gi h4 (gp h4 l0 17) ((l1 + 300) + r3 : Int32).toNatClampNeg)]) (st := []) dX12_takes_39 mt_X12_lays g_1432 g_1434 g_62 rfl e1 rfl rfl (Nat.le_of_ble_eq_true rfl) (Nat.le_refl _) ⟨Nat.le_refl _, Nat.le_refl _⟩ w ?_
    rintro v h7 ⟨rfl, w⟩
    refine w_aload_n dX12_takes_42 rfl ?_
    refine w_iload_n dX12_takes_43 rfl ?_
    refine w_iload_n dX12_takes_44 rfl ?_
    refine w_iconst (v := 3) dX12_takes_45 rfl ?_
    refine w_aload_n dX12_takes_46 rfl ?_
    refine w_iload_n dX12_takes_47 rfl ?_
    refine w_iload_n dX12_takes_48 rfl ?_
    refine w_iconst (v := 3) dX12_takes_49 rfl ?_
    obtain ⟨e1, w⟩ := w
    refine w_callV (As := [.int l1, .int r1, .int 3]) (st := [.int 3, .int r1, .int l1, .ref l0]) dX12_takes_50 mt_X12_nodeOf g_1420 g_1422 g_59 rfl e1 rfl rfl (Nat.le_of_ble_eq_true rfl) (Nat.le_refl _) ⟨Nat.le_refl _, Nat.le_refl _⟩ w ?_
    rintro v h9 ⟨r8, rfl, w⟩
    refine w_iconst (v := 1) dX12_takes_53 rfl ?_
    refine w_isub dX12_takes_54 ?_
    obtain ⟨e1, w⟩ := w
    refine w_callV (As := [.int l1, .int r1, .int 3, .int (r8 - 1)]) (st := []) dX12_takes_55 mt_X12_lays g_1432 g_1434 g_62 rfl e1 rfl rfl (Nat.le_of_ble_eq_true rfl) (Nat.le_refl _) ⟨Nat.le_refl _, Nat.le_refl _⟩ w ?_
    rintro v h11 ⟨rfl, w⟩
    refine w_aload_n dX12_takes_58 rfl ?_
    refine w_iload_n dX12_takes_59 rfl ?_
    refine w_iload_n dX12_takes_60 rfl ?_
    refine w_iconst (v := 3) dX12_takes_61 rfl ?_
    obtain ⟨e1, w⟩ := w
    refine w_callV (As := [.int l1, .int r1, .int 3]) (st := []) dX12_takes_62 mt_X12_nodeOf g_1420 g_1422 g_59 rfl e1 rfl rfl (Nat.le_of_ble_eq_true rfl) (Nat.le_refl _) ⟨Nat.le_refl _, Nat.le_refl _⟩ w ?_
    rintro v h13 ⟨r12, rfl, w⟩
    refine w_if_ne (tgt := 76) dX12_takes_65 rfl (fun c => ?_) (fun c => ?_)
    · rw [if_neg c] at w
      exact w
    · rw [if_pos c] at w
      refine w_aload_n dX12_takes_68 rfl ?_
      refine w_iload_n dX12_takes_69 rfl ?_
      refine w_iload_n dX12_takes_70 rfl ?_
      refine w_iconst (v := 5) dX12_takes_71 rfl ?_
      refine w_iconst (v := (-1)) dX12_takes_72 rfl ?_
      obtain ⟨e1, w⟩ := w
      refine w_callV (As := [.int l1, .int r1, .int 5, .int (-1)]) (st := []) dX12_takes_73 mt_X12_lays g_1432 g_1434 g_62 rfl e1 rfl rfl (Nat.le_of_ble_eq_true rfl) (Nat.le_refl _) ⟨Nat.le_refl _, Nat.le_refl _⟩ w ?_
      rintro v h15 ⟨rfl, w⟩
      exact w
  · rw [if_neg c] at w
    refine w_iconst (v := (-1)) dX12_takes_11 rfl ?_
    exact w_ireturn dX12_takes_12 rfl rfl ⟨Nat.le_refl _, Nat.le_refl _⟩ w
set_option maxRecDepth 20000 in
set_option maxHeartbeats 4000000 in
theorem x_X12_takes_76 {G : pm_G} {d : Nat} {post : pm_PT} {h : pm_H} {l0 : Nat} {l1 : Int32} {l2 : Int32} {l3 : Int32} {l4 : Int32} (w :
    (h.1[l0]? = some (0, 11)) ∧
    ∃ n1 : Nat, h.1[gp h l0 17]? = some (1, n1) ∧
    (vp_in ((l1 + 300) + l4) n1) ∧
    ∀ h2 : pm_H, h2 = si h (gp h l0 17) ((l1 + 300) + l4 : Int32).toNatClampNeg (-1) →
    ∃ n3 : Nat, h.1[gp h2 l0 17]? = some (1, n3) ∧
    (vp_in ((l1 + 240) + l4) n3) ∧
    ∀ h4 : pm_H, h4 = si h2 (gp h2 l0 17) ((l1 + 240) + l4 : Int32).toNatClampNeg (-1) →
    ci G d m_X12_isLeaf [.ref l0, .int l1, .int l3] h4 fun r5 h6 =>
    if r5 = 0 then (
      (h6.1[l0]? = some (0, 11)) ∧
      ci G d m_X12_nodeOf [.ref l0, .int l1, .int l3, .int 3] h6 fun r7 h8 =>
      (h8.1[l0]? = some (0, 11)) ∧
      ci G d m_X12_nodeOf [.ref l0, .int l1, .int l3, .int 1] h8 fun r9 h10 =>
      if (r9 / 2) < r7 then (
        post (some (.int l4)) h10
      ) else (
        (h10.1[l0]? = some (0, 11)) ∧
        cv G d m_X12_sifts [.ref l0, .int l1, .int l3] h10 fun h12 =>
        post (some (.int l4)) h12
      )
    ) else (
      (h6.1[l0]? = some (0, 11)) ∧
      ci G d m_X12_nodeOf [.ref l0, .int l1, .int l3, .int 3] h6 fun r13 h14 =>
      if r13 = 0 then (
        (h14.1[l0]? = some (0, 11)) ∧
        ci G d m_X12_nodeOf [.ref l0, .int l1, .int l3, .int 0] h14 fun r15 h16 =>
        (h16.1[l0]? = some (0, 11)) ∧
        cv G d m_X12_roots [.ref l0, .int l1, .int l2, .int r15, .int (-1)] h16 fun h18 =>
        (h18.1[l0]? = some (0, 11)) ∧
        cv G d m_X12_frees [.ref l0, .int l1, .int l3] h18 fun h20 =>
        post (some (.int l4)) h20
      ) else (
        post (some (.int l4)) h14
      )
    )) :
    Wp G (m_X12_takes, d + 1, 0, 0, post) (0, 0) 76 [.ref l0, .int l1, .int l2, .int l3, .int l4] [] h := by
  refine w_aload_n dX12_takes_76 rfl ?_
  obtain ⟨e1, w⟩ := w
  refine w_getp dX12_takes_77 lk_RX12_97 e1 rfl ?_
  refine w_iload_n dX12_takes_80 rfl ?_
  refine w_sipush (v := 300) dX12_takes_81 rfl ?_
  refine w_iadd dX12_takes_84 ?_
  refine w_iload dX12_takes_85 rfl ?_
  refine w_iadd dX12_takes_87 ?_
  refine w_iconst (v := (-1)) dX12_takes_88 rfl ?_
  obtain ⟨n1, ln1, w⟩ := w
  obtain ⟨e3, w⟩ := w
  refine w_iast dX12_takes_89 ln1 e3 ?_
  have w := w _ rfl
  refine w_aload_n dX12_takes_90 rfl ?_
  refine w_getp dX12_takes_91 lk_RX12_97 e1 rfl ?_
  refine w_iload_n dX12_takes_94 rfl ?_
  refine w_sipush (v := 240) dX12_takes_95 rfl ?_
  refine w_iadd dX12_takes_98 ?_
  refine w_iload dX12_takes_99 rfl ?_
  refine w_iadd dX12_takes_101 ?_
  refine w_iconst (v := (-1)) dX12_takes_102 rfl ?_
  obtain ⟨n3, ln3, w⟩ := w
  obtain ⟨e5, w⟩ := w
  refine w_iast dX12_takes_103 ln3 e5 ?_
  have w := w _ rfl
  refine w_aload_n dX12_takes_104 rfl ?_
  refine w_iload_n dX12_takes_105 rfl ?_
  refine w_iload_n dX12_takes_106 rfl ?_
  refine w_callV (As := [.int l1, .int l3]) (st := []) dX12_takes_107 mt_X12_isLeaf g_1471 g_1473 g_71 rfl e1 rfl rfl (Nat.le_of_ble_eq_true rfl) (Nat.le_refl _) ⟨Nat.le_refl _, Nat.le_refl _⟩ w ?_
  rintro v h6 ⟨r5, rfl, w⟩
  refine w_if_eq (tgt := 146) dX12_takes_110 rfl (fun c => ?_) (fun c => ?_)
  · rw [if_pos c] at w
    refine w_aload_n dX12_takes_146 rfl ?_
    refine w_iload_n dX12_takes_147 rfl ?_
    refine w_iload_n dX12_takes_148 rfl ?_
    refine w_iconst (v := 3) dX12_takes_149 rfl ?_
    obtain ⟨e1, w⟩ := w
    refine w_callV (As := [.int l1, .int l3, .int 3]) (st := []) dX12_takes_150 mt_X12_nodeOf g_1420 g_1422 g_59 rfl e1 rfl rfl (Nat.le_of_ble_eq_true rfl) (Nat.le_refl _) ⟨Nat.le_refl _, Nat.le_refl _⟩ w ?_
    rintro v h8 ⟨r7, rfl, w⟩
    refine w_aload_n dX12_takes_153 rfl ?_
    refine w_iload_n dX12_takes_154 rfl ?_
    refine w_iload_n dX12_takes_155 rfl ?_
    refine w_iconst (v := 1) dX12_takes_156 rfl ?_
    obtain ⟨e1, w⟩ := w
    refine w_callV (As := [.int l1, .int l3, .int 1]) (st := [.int r7]) dX12_takes_157 mt_X12_nodeOf g_1420 g_1422 g_59 rfl e1 rfl rfl (Nat.le_of_ble_eq_true rfl) (Nat.le_refl _) ⟨Nat.le_refl _, Nat.le_refl _⟩ w ?_
    rintro v h10 ⟨r9, rfl, w⟩
    refine w_iconst (v := 2) dX12_takes_160 rfl ?_
    refine w_idiv dX12_takes_161 (by decide) ?_
    refine w_ic_gt (tgt := 171) dX12_takes_162 rfl (fun c => ?_) (fun c => ?_)
    · rw [if_pos c] at w
      refine w_iload dX12_takes_171 rfl ?_
      exact w_ireturn dX12_takes_173 rfl rfl ⟨Nat.le_refl _, Nat.le_refl _⟩ w
    · rw [if_neg c] at w
      refine w_aload_n dX12_takes_165 rfl ?_
      refine w_iload_n dX12_takes_166 rfl ?_
      refine w_iload_n dX12_takes_167 rfl ?_
      obtain ⟨e1, w⟩ := w
      refine w_callV (As := [.int l1, .int l3]) (st := []) dX12_takes_168 mt_X12_sifts g_1467 g_1469 g_70 rfl e1 rfl rfl (Nat.le_of_ble_eq_true rfl) (Nat.le_refl _) ⟨Nat.le_refl _, Nat.le_refl _⟩ w ?_
      rintro v h12 ⟨rfl, w⟩
      refine w_iload dX12_takes_171 rfl ?_
      exact w_ireturn dX12_takes_173 rfl rfl ⟨Nat.le_refl _, Nat.le_refl _⟩ w
  · rw [if_neg c] at w
    refine w_aload_n dX12_takes_113 rfl ?_
    refine w_iload_n dX12_takes_114 rfl ?_
    refine w_iload_n dX12_takes_115 rfl ?_
    refine w_iconst (v := 3) dX12_takes_116 rfl ?_
    obtain ⟨e1, w⟩ := w
    refine w_callV (As := [.int l1, .int l3, .int 3]) (st := []) dX12_takes_117 mt_X12_nodeOf g_1420 g_1422 g_59 rfl e1 rfl rfl (Nat.le_of_ble_eq_true rfl) (Nat.le_refl _) ⟨Nat.le_refl _, Nat.le_refl _⟩ w ?_
    rintro v h14 ⟨r13, rfl, w⟩
    refine w_if_ne (tgt := 171) dX12_takes_120 rfl (fun c => ?_) (fun c => ?_)
    · rw [if_neg c] at w
      refine w_iload dX12_takes_171 rfl ?_
      exact w_ireturn dX12_takes_173 rfl rfl ⟨Nat.le_refl _, Nat.le_refl _⟩ w
    · rw [if_pos c] at w
      refine w_aload_n dX12_takes_123 rfl ?_
      refine w_iload_n dX12_takes_124 rfl ?_
      refine w_iload_n dX12_takes_125 rfl ?_
      refine w_aload_n dX12_takes_126 rfl ?_
      refine w_iload_n dX12_takes_127 rfl ?_
      refine w_iload_n dX12_takes_128 rfl ?_
      refine w_iconst (v := 0) dX12_takes_129 rfl ?_
      obtain ⟨e1, w⟩ := w
      refine w_callV (As := [.int l1, .int l3, .int 0]) (st := [.int l2, .int l1, .ref l0]) dX12_takes_130 mt_X12_nodeOf g_1420 g_1422 g_59 rfl e1 rfl rfl (Nat.le_of_ble_eq_true rfl) (Nat.le_refl _) ⟨Nat.le_refl _, Nat.le_refl _⟩ w ?_
      rintro v h16 ⟨r15, rfl, w⟩
      refine w_iconst (v := (-1)) dX12_takes_133 rfl ?_
      obtain ⟨e1, w⟩ := w
      refine w_callV (As := [.int l1, .int l2, .int r15, .int (-1)]) (st := []) dX12_takes_134 mt_X12_roots g_1452 g_1454 g_67 rfl e1 rfl rfl (Nat.le_of_ble_eq_true rfl) (Nat.le_refl _) ⟨Nat.le_refl _, Nat.le_refl _⟩ w ?_
      rintro v h18 ⟨rfl, w⟩
      refine w_aload_n dX12_takes_137 rfl ?_
      refine w_iload_n dX12_takes_138 rfl ?_
      refine w_iload_n dX12_takes_139 rfl ?_
      obtain ⟨e1, w⟩ := w
      refine w_callV (As := [.int l1, .int l3]) (st := []) dX12_takes_140 mt_X12_frees g_1428 g_1430 g_61 rfl e1 rfl rfl (Nat.le_of_ble_eq_true rfl) (Nat.le_refl _) ⟨Nat.le_refl _, Nat.le_refl _⟩ w ?_
      rintro v h20 ⟨rfl, w⟩
      refine w_goto (tgt := 171) dX12_takes_143 rfl ?_
      refine w_iload dX12_takes_171 rfl ?_
      exact w_ireturn dX12_takes_173 rfl rfl ⟨Nat.le_refl _, Nat.le_refl _⟩ w
set_option maxRecDepth 20000 in
set_option maxHeartbeats 4000000 in
theorem x_X12_shelvedOn {G : pm_G} {d : Nat} {post : pm_PT} {h : pm_H} {l0 : Nat} {l1 : Int32} {l2 : Int32} (w :
    Wp G (m_X12_shelvedOn, d + 1, 0, 0, post) (0, 0) 5 [.ref l0, .int l1, .int l2, .int 0, .int 0] [] h) :
    Wp G (m_X12_shelvedOn, d + 1, 0, 0, post) (0, 0) 0 [.ref l0, .int l1, .int l2, .null, .null] [] h := by
  refine w_iconst (v := 0) dX12_shelvedOn_0 rfl ?_
  refine v_istore_n (l' := [.ref l0, .int l1, .int l2, .int 0, .null]) dX12_shelvedOn_1 (Nat.le_of_ble_eq_true rfl) rfl ?_
  refine w_iconst (v := 0) dX12_shelvedOn_2 rfl ?_
  refine v_istore (l' := [.ref l0, .int l1, .int l2, .int 0, .int 0]) dX12_shelvedOn_3 (Nat.le_of_ble_eq_true rfl) rfl ?_
  exact w
set_option maxRecDepth 20000 in
set_option maxHeartbeats 4000000 in
theorem x_X12_shelvedOn_5 {G : pm_G} {d : Nat} {post : pm_PT} {h : pm_H} {l0 : Nat} {l1 : Int32} {l2 : Int32} {l3 : Int32} {l4 : Int32} (w :
    (h.1[l0]? = some (0, 11)) ∧
    ci G d m_X12_items [.ref l0] h fun r1 h2 =>
    if r1 ≤ l4 then (
      post (some (.int l3)) h2
    ) else (
      (h2.1[l0]? = some (0, 11)) ∧
      ∃ n3 : Nat, h2.1[gp h2 l0 17]? = some (1, n3) ∧
      (vp_in ((l1 + 260) + l4) n3) ∧
      if (gi h2 (gp h2 l0 17) ((l1 + 260) + l4 : Int32).toNatClampNeg) = l2 then (
        Wp G (m_X12_shelvedOn, d + 1, 0, 0, post) (0, 0) 5 [.ref l0, .int l1, .int l2, .int (l3 + 1), .int (l4 + 1)] [] h2
      ) else (
        Wp G (m_X12_shelvedOn, d + 1, 0, 0, post) (0, 0) 5 [.ref l0, .int l1, .int l2, .int (l3 + 0), .int (l4 + 1)] [] h2
      )
    )) :
    Wp G (m_X12_shelvedOn, d + 1, 0, 0, post) (0, 0) 5 [.ref l0, .int l1, .int l2, .int l3, .int l4] [] h := by
  refine w_iload dX12_shelvedOn_5 rfl ?_
  refine w_aload_n dX12_shelvedOn_7 rfl ?_
  obtain ⟨e1, w⟩ := w
  refine w_callV (As := []) (st := [.int l4]) dX12_shelvedOn_8 mt_X12_items g_1363 g_1365 g_52 rfl e1 rfl rfl (Nat.le_of_ble_eq_true rfl) (Nat.le_refl _) ⟨Nat.le_refl _, Nat.le_refl _⟩ w ?_
  rintro v h2 ⟨r1, rfl, w⟩
  refine w_ic_ge (tgt := 45) dX12_shelvedOn_11 rfl (fun c => ?_) (fun c => ?_)
  · rw [if_pos c] at w
    refine w_iload_n dX12_shelvedOn_45 rfl ?_
    exact w_ireturn dX12_shelvedOn_46 rfl rfl ⟨Nat.le_refl _, Nat.le_refl _⟩ w
  · rw [if_neg c] at w
    refine w_iload_n dX12_shelvedOn_14 rfl ?_
    refine w_aload_n dX12_shelvedOn_15 rfl ?_
    obtain ⟨e1, w⟩ := w
    refine w_getp dX12_shelvedOn_16 lk_RX12_97 e1 rfl ?_
    refine w_iload_n dX12_shelvedOn_19 rfl ?_
    refine w_sipush (v := 260) dX12_shelvedOn_20 rfl ?_
    refine w_iadd dX12_shelvedOn_23 ?_
    refine w_iload dX12_shelvedOn_24 rfl ?_
    refine w_iadd dX12_shelvedOn_26 ?_
    obtain ⟨n3, ln3, w⟩ := w
    obtain ⟨e3, w⟩ := w
    refine w_iald dX12_shelvedOn_27 ln3 e3 ?_
    refine w_iload_n dX12_shelvedOn_28 rfl ?_
    refine w_ic_ne (tgt := 36) dX12_shelvedOn_29 rfl (fun c => ?_) (fun c => ?_)
    · rw [if_neg c] at w
      refine w_iconst (v := 0) dX12_shelvedOn_36 rfl ?_
      refine w_iadd dX12_shelvedOn_37 ?_
      refine v_istore_n (l' := [.ref l0, .int l1, .int l2, .int (l3 + 0), .int l4]) dX12_shelvedOn_38 (Nat.le_of_ble_eq_true rfl) rfl ?_
      refine v_iinc (l' := [.ref l0, .int l1, .int l2, .int (l3 + 0), .int (l4 + 1)]) (v := l4 + 1) dX12_shelvedOn_39 rfl rfl (Nat.le_of_ble_eq_true rfl) rfl ?_
      refine w_goto (tgt := 5) dX12_shelvedOn_42 rfl ?_
      exact w
    · rw [if_pos c] at w
      refine w_iconst (v := 1) dX12_shelvedOn_32 rfl ?_
      refine w_goto (tgt := 37) dX12_shelvedOn_33 rfl ?_
      refine w_iadd dX12_shelvedOn_37 ?_
      refine v_istore_n (l' := [.ref l0, .int l1, .int l2, .int (l3 + 1), .int l4]) dX12_shelvedOn_38 (Nat.le_of_ble_eq_true rfl) rfl ?_
      refine v_iinc (l' := [.ref l0, .int l1, .int l2, .int (l3 + 1), .int (l4 + 1)]) (v := l4 + 1) dX12_shelvedOn_39 rfl rfl (Nat.le_of_ble_eq_true rfl) rfl ?_
      refine w_goto (tgt := 5) dX12_shelvedOn_42 rfl ?_
      exact w
set_option maxRecDepth 20000 in
set_option maxHeartbeats 4000000 in
theorem x_X12_isTaken {G : pm_G} {d : Nat} {post : pm_PT} {h : pm_H} {l0 : Nat} {l1 : Int32} {l2 : Int32} {l3 : Int32} (w :
    Wp G (m_X12_isTaken, d + 1, 0, 0, post) (0, 0) 6 [.ref l0, .int l1, .int l2, .int l3, .int 0, .int 0] [] h) :
    Wp G (m_X12_isTaken, d + 1, 0, 0, post) (0, 0) 0 [.ref l0, .int l1, .int l2, .int l3, .null, .null] [] h := by
  refine w_iconst (v := 0) dX12_isTaken_0 rfl ?_
  refine v_istore (l' := [.ref l0, .int l1, .int l2, .int l3, .int 0, .null]) dX12_isTaken_1 (Nat.le_of_ble_eq_true rfl) rfl ?_
  refine w_iconst (v := 0) dX12_isTaken_3 rfl ?_
  refine v_istore (l' := [.ref l0, .int l1, .int l2, .int l3, .int 0, .int 0]) dX12_isTaken_4 (Nat.le_of_ble_eq_true rfl) rfl ?_
  exact w
set_option maxRecDepth 20000 in
set_option maxHeartbeats 4000000 in
theorem x_X12_isTaken_6 {G : pm_G} {d : Nat} {post : pm_PT} {h : pm_H} {l0 : Nat} {l1 : Int32} {l2 : Int32} {l3 : Int32} {l4 : Int32} {l5 : Int32} (w :
    (h.1[l0]? = some (0, 11)) ∧
    ci G d m_X12_items [.ref l0] h fun r1 h2 =>
    if r1 ≤ l5 then (
      (l4 = 0 ∨ l4 = 1) ∧
      post (some (.int l4)) h2
    ) else (
      if l4 = 0 then (
        (h2.1[l0]? = some (0, 11)) ∧
        ∃ n3 : Nat, h2.1[gp h2 l0 17]? = some (1, n3) ∧
        (vp_in ((l1 + 260) + l5) n3) ∧
        if (gi h2 (gp h2 l0 17) ((l1 + 260) + l5 : Int32).toNatClampNeg) = l2 then (
          (vp_in ((l1 + 280) + l5) n3) ∧
          if (gi h2 (gp h2 l0 17) ((l1 + 280) + l5 : Int32).toNatClampNeg) = l3 then (
            Wp G (m_X12_isTaken, d + 1, 0, 0, post) (0, 0) 6 [.ref l0, .int l1, .int l2, .int l3, .int 1, .int (l5 + 1)] [] h2
          ) else (
            Wp G (m_X12_isTaken, d + 1, 0, 0, post) (0, 0) 6 [.ref l0, .int l1, .int l2, .int l3, .int 0, .int (l5 + 1)] [] h2
          )
        ) else (
          Wp G (m_X12_isTaken, d + 1, 0, 0, post) (0, 0) 6 [.ref l0, .int l1, .int l2, .int l3, .int 0, .int (l5 + 1)] [] h2
        )
      ) else (
        Wp G (m_X12_isTaken, d + 1, 0, 0, post) (0, 0) 6 [.ref l0, .int l1, .int l2, .int l3, .int 1, .int (l5 + 1)] [] h2
      )
    )) :
    Wp G (m_X12_isTaken, d + 1, 0, 0, post) (0, 0) 6 [.ref l0, .int l1, .int l2, .int l3, .int l4, .int l5] [] h := by
  refine w_iload dX12_isTaken_6 rfl ?_
  refine w_aload_n dX12_isTaken_8 rfl ?_
  obtain ⟨e1, w⟩ := w
  refine w_callV (As := []) (st := [.int l5]) dX12_isTaken_9 mt_X12_items g_1363 g_1365 g_52 rfl e1 rfl rfl (Nat.le_of_ble_eq_true rfl) (Nat.le_refl _) ⟨Nat.le_refl _, Nat.le_refl _⟩ w ?_
  rintro v h2 ⟨r1, rfl, w⟩
  refine w_ic_ge (tgt := 67) dX12_isTaken_12 rfl (fun c => ?_) (fun c => ?_)
  · rw [if_pos c] at w
    refine w_iload dX12_isTaken_67 rfl ?_
    obtain ⟨e1, w⟩ := w
    exact w_ireturn dX12_isTaken_69 rfl (pm_nz e1) ⟨Nat.le_refl _, Nat.le_refl _⟩ w
  · rw [if_neg c] at w
    refine w_iload dX12_isTaken_15 rfl ?_
    refine w_if_ne (tgt := 54) dX12_isTaken_17 rfl (fun c => ?_) (fun c => ?_)
    · rw [if_neg c] at w
      refine w_iconst (v := 1) dX12_isTaken_54 rfl ?_
      refine w_goto (tgt := 59) dX12_isTaken_55 rfl ?_
      refine v_istore (l' := [.ref l0, .int l1, .int l2, .int l3, .int 1, .int l5]) dX12_isTaken_59 (Nat.le_of_ble_eq_true rfl) rfl ?_
      refine v_iinc (l' := [.ref l0, .int l1, .int l2, .int l3, .int 1, .int (l5 + 1)]) (v := l5 + 1) dX12_isTaken_61 rfl rfl (Nat.le_of_ble_eq_true rfl) rfl ?_
      refine w_goto (tgt := 6) dX12_isTaken_64 rfl ?_
      exact w
    · rw [if_pos c] at w
      refine w_aload_n dX12_isTaken_20 rfl ?_
      obtain ⟨e1, w⟩ := w
      refine w_getp dX12_isTaken_21 lk_RX12_97 e1 rfl ?_
      refine w_iload_n dX12_isTaken_24 rfl ?_
      refine w_sipush (v := 260) dX12_isTaken_25 rfl ?_
      refine w_iadd dX12_isTaken_28 ?_
      refine w_iload dX12_isTaken_29 rfl ?_
      refine w_iadd dX12_isTaken_31 ?_
      obtain ⟨n3, ln3, w⟩ := w
      obtain ⟨e3, w⟩ := w
      refine w_iald dX12_isTaken_32 ln3 e3 ?_
      refine w_iload_n dX12_isTaken_33 rfl ?_
      refine w_ic_ne (tgt := 58) dX12_isTaken_34 rfl (fun c => ?_) (fun c => ?_)
      · rw [if_neg c] at w
        refine w_iconst (v := 0) dX12_isTaken_58 rfl ?_
        refine v_istore (l' := [.ref l0, .int l1, .int l2, .int l3, .int 0, .int l5]) dX12_isTaken_59 (Nat.le_of_ble_eq_true rfl) rfl ?_
        refine v_iinc (l' := [.ref l0, .int l1, .int l2, .int l3, .int 0, .int (l5 + 1)]) (v := l5 + 1) dX12_isTaken_61 rfl rfl (Nat.le_of_ble_eq_true rfl) rfl ?_
        refine w_goto (tgt := 6) dX12_isTaken_64 rfl ?_
        exact w
      · rw [if_pos c] at w
        refine w_aload_n dX12_isTaken_37 rfl ?_
        refine w_getp dX12_isTaken_38 lk_RX12_97 e1 rfl ?_
        refine w_iload_n dX12_isTaken_41 rfl ?_
        refine w_sipush (v := 280) dX12_isTaken_42 rfl ?_
        refine w_iadd dX12_isTaken_45 ?_
        refine w_iload dX12_isTaken_46 rfl ?_
        refine w_iadd dX12_isTaken_48 ?_
        obtain ⟨e4, w⟩ := w
        refine w_iald dX12_isTaken_49 ln3 e4 ?_
        refine w_iload_n dX12_isTaken_50 rfl ?_
        refine w_ic_ne (tgt := 58) dX12_isTaken_51 rfl (fun c => ?_) (fun c => ?_)
        · rw [if_neg c] at w
          refine w_iconst (v := 0) dX12_isTaken_58 rfl ?_
          refine v_istore (l' := [.ref l0, .int l1, .int l2, .int l3, .int 0, .int l5]) dX12_isTaken_59 (Nat.le_of_ble_eq_true rfl) rfl ?_
          refine v_iinc (l' := [.ref l0, .int l1, .int l2, .int l3, .int 0, .int (l5 + 1)]) (v := l5 + 1) dX12_isTaken_61 rfl rfl (Nat.le_of_ble_eq_true rfl) rfl ?_
          refine w_goto (tgt := 6) dX12_isTaken_64 rfl ?_
          exact w
        · rw [if_pos c] at w
          refine w_iconst (v := 1) dX12_isTaken_54 rfl ?_
          refine w_goto (tgt := 59) dX12_isTaken_55 rfl ?_
          refine v_istore (l' := [.ref l0, .int l1, .int l2, .int l3, .int 1, .int l5]) dX12_isTaken_59 (Nat.le_of_ble_eq_true rfl) rfl ?_
          refine v_iinc (l' := [.ref l0, .int l1, .int l2, .int l3, .int 1, .int (l5 + 1)]) (v := l5 + 1) dX12_isTaken_61 rfl rfl (Nat.le_of_ble_eq_true rfl) rfl ?_
          refine w_goto (tgt := 6) dX12_isTaken_64 rfl ?_
          exact w
set_option maxRecDepth 20000 in
set_option maxHeartbeats 4000000 in
theorem x_X12_shelves {G : pm_G} {d : Nat} {post : pm_PT} {h : pm_H} {l0 : Nat} {l1 : Int32} {l2 : Int32} {l3 : Int32} (w :
    (h.1[l0]? = some (0, 11)) ∧
    ci G d m_X12_takes [.ref l0, .int l1, .int l2] h fun r1 h2 =>
    (h2.1[l0]? = some (0, 11)) ∧
    ci G d m_X12_itemOf [.ref l0, .int r1, .int 0] h2 fun r3 h4 =>
    (h4.1[l0]? = some (0, 11)) ∧
    ∃ n5 : Nat, h4.1[gp h4 l0 10]? = some (1, n5) ∧
    (vp_in (5 + l3) n5) ∧
    if r3 = (gi h4 (gp h4 l0 10) (5 + l3 : Int32).toNatClampNeg) then (
      ci G d m_X12_shelvedOn [.ref l0, .int l1, .int l3] h4 fun r6 h7 =>
      if r6 = 4 then (
        post (some (.int 0)) h7
      ) else (
        Wp G (m_X12_shelves, d + 1, 0, 0, post) (0, 0) 41 [.ref l0, .int l1, .null, .int l3, .int r1, .int 0] [] h7
      )
    ) else (
      post (some (.int 0)) h4
    )) :
    Wp G (m_X12_shelves, d + 1, 0, 0, post) (0, 0) 0 [.ref l0, .int l1, .int l2, .int l3, .null, .null] [] h := by
  refine w_aload_n dX12_shelves_0 rfl ?_
  refine w_iload_n dX12_shelves_1 rfl ?_
  refine w_iload_n dX12_shelves_2 rfl ?_
  obtain ⟨e1, w⟩ := w
  refine w_callV (As := [.int l1, .int l2]) (st := []) dX12_shelves_3 mt_X12_takes g_1715 g_1717 g_105 rfl e1 rfl rfl (Nat.le_of_ble_eq_true rfl) (Nat.le_refl _) ⟨Nat.le_refl _, Nat.le_refl _⟩ w ?_
  rintro v h2 ⟨r1, rfl, w⟩
  refine v_istore (l' := [.ref l0, .int l1, .int l2, .int l3, .int r1, .null]) dX12_shelves_6 (Nat.le_of_ble_eq_true rfl) rfl ?_
  refine w_aload_n dX12_shelves_8 rfl ?_
  refine w_iload dX12_shelves_9 rfl ?_
  refine w_iconst (v := 0) dX12_shelves_11 rfl ?_
  obtain ⟨e1, w⟩ := w
  refine w_callV (As := [.int r1, .int 0]) (st := []) dX12_shelves_12 mt_X12_itemOf g_1371 g_1373 g_54 rfl e1 rfl rfl (Nat.le_of_ble_eq_true rfl) (Nat.le_refl _) ⟨Nat.le_refl _, Nat.le_refl _⟩ w ?_
  rintro v h4 ⟨r3, rfl, w⟩
  refine w_aload_n dX12_shelves_15 rfl ?_
  obtain ⟨e1, w⟩ := w
  refine w_getp dX12_shelves_16 lk_RX12_79 e1 rfl ?_
  refine w_iconst (v := 5) dX12_shelves_19 rfl ?_
  refine w_iload_n dX12_shelves_20 rfl ?_
  refine w_iadd dX12_shelves_21 ?_
  obtain ⟨n5, ln5, w⟩ := w
  obtain ⟨e3, w⟩ := w
  refine w_iald dX12_shelves_22 ln5 e3 ?_
  refine w_ic_ne (tgt := 36) dX12_shelves_23 rfl (fun c => ?_) (fun c => ?_)
  · rw [if_neg c] at w
    refine w_iconst (v := 0) dX12_shelves_36 rfl ?_
    exact w_ireturn dX12_shelves_37 rfl rfl ⟨Nat.le_refl _, Nat.le_refl _⟩ w
  · rw [if_pos c] at w
    refine w_aload_n dX12_shelves_26 rfl ?_
    refine w_iload_n dX12_shelves_27 rfl ?_
    refine w_iload_n dX12_shelves_28 rfl ?_
    refine w_callV (As := [.int l1, .int l3]) (st := []) dX12_shelves_29 mt_X12_shelvedOn g_1738 g_1740 g_108 rfl e1 rfl rfl (Nat.le_of_ble_eq_true rfl) (Nat.le_refl _) ⟨Nat.le_refl _, Nat.le_refl _⟩ w ?_
    rintro v h7 ⟨r6, rfl, w⟩
    refine w_iconst (v := 4) dX12_shelves_32 rfl ?_
    refine w_ic_ne (tgt := 38) dX12_shelves_33 rfl (fun c => ?_) (fun c => ?_)
    · rw [if_neg c] at w
      refine w_iconst (v := 0) dX12_shelves_38 rfl ?_
      refine v_istore (l' := [.ref l0, .int l1, .int l2, .int l3, .int r1, .int 0]) dX12_shelves_39 (Nat.le_of_ble_eq_true rfl) rfl ?_
      exact w_drop (l' := [.ref l0, .int l1, .null, .int l3, .int r1, .int 0]) ⟨Or.inr rfl, Or.inr rfl, Or.inl rfl, Or.inr rfl, Or.inr rfl, Or.inr rfl, trivial⟩ w
    · rw [if_pos c] at w
      refine w_iconst (v := 0) dX12_shelves_36 rfl ?_
      exact w_ireturn dX12_shelves_37 rfl rfl ⟨Nat.le_refl _, Nat.le_refl _⟩ w
set_option maxRecDepth 20000 in
set_option maxHeartbeats 4000000 in
theorem x_X12_shelves_41 {G : pm_G} {d : Nat} {post : pm_PT} {h : pm_H} {l0 : Nat} {l1 : Int32} {l3 : Int32} {l4 : Int32} {l5 : Int32} (w :
    (h.1[l0]? = some (0, 11)) ∧
    ci G d m_X12_isTaken [.ref l0, .int l1, .int l3, .int l5] h fun r1 h2 =>
    if r1 = 0 then (
      (h2.1[l0]? = some (0, 11)) ∧
      ∃ n3 : Nat, h2.1[gp h2 l0 17]? = some (1, n3) ∧
      (vp_in ((l1 + 260) + l4) n3) ∧
      ∀ h4 : pm_H, h4 = si h2 (gp h2 l0 17) ((l1 + 260) + l4 : Int32).toNatClampNeg l3 →
      ∃ n5 : Nat, h2.1[gp h4 l0 17]? = some (1, n5) ∧
      (vp_in ((l1 + 280) + l4) n5) ∧
      ∀ h6 : pm_H, h6 = si h4 (gp h4 l0 17) ((l1 + 280) + l4 : Int32).toNatClampNeg l5 →
      post (some (.int 1)) h6
    ) else (
      Wp G (m_X12_shelves, d + 1, 0, 0, post) (0, 0) 41 [.ref l0, .int l1, .null, .int l3, .int l4, .int (l5 + 1)] [] h2
    )) :
    Wp G (m_X12_shelves, d + 1, 0, 0, post) (0, 0) 41 [.ref l0, .int l1, .null, .int l3, .int l4, .int l5] [] h := by
  refine w_aload_n dX12_shelves_41 rfl ?_
  refine w_iload_n dX12_shelves_42 rfl ?_
  refine w_iload_n dX12_shelves_43 rfl ?_
  refine w_iload dX12_shelves_44 rfl ?_
  obtain ⟨e1, w⟩ := w
  refine w_callV (As := [.int l1, .int l3, .int l5]) (st := []) dX12_shelves_46 mt_X12_isTaken g_1742 g_1744 g_109 rfl e1 rfl rfl (Nat.le_of_ble_eq_true rfl) (Nat.le_refl _) ⟨Nat.le_refl _, Nat.le_refl _⟩ w ?_
  rintro v h2 ⟨r1, rfl, w⟩
  refine w_if_eq (tgt := 58) dX12_shelves_49 rfl (fun c => ?_) (fun c => ?_)
  · rw [if_pos c] at w
    refine w_aload_n dX12_shelves_58 rfl ?_
    obtain ⟨e1, w⟩ := w
    refine w_getp dX12_shelves_59 lk_RX12_97 e1 rfl ?_
    refine w_iload_n dX12_shelves_62 rfl ?_
    refine w_sipush (v := 260) dX12_shelves_63 rfl ?_
    refine w_iadd dX12_shelves_66 ?_
    refine w_iload dX12_shelves_67 rfl ?_
    refine w_iadd dX12_shelves_69 ?_
    refine w_iload_n dX12_shelves_70 rfl ?_
    obtain ⟨n3, ln3, w⟩ := w
    obtain ⟨e3, w⟩ := w
    refine w_iast dX12_shelves_71 ln3 e3 ?_
    have w := w _ rfl
    refine w_aload_n dX12_shelves_72 rfl ?_
    refine w_getp dX12_shelves_73 lk_RX12_97 e1 rfl ?_
    refine w_iload_n dX12_shelves_76 rfl ?_
    refine w_sipush (v := 280) dX12_shelves_77 rfl ?_
    refine w_iadd dX12_shelves_80 ?_
    refine w_iload dX12_shelves_81 rfl ?_
    refine w_iadd dX12_shelves_83 ?_
    refine w_iload dX12_shelves_84 rfl ?_
    obtain ⟨n5, ln5, w⟩ := w
    obtain ⟨e5, w⟩ := w
    refine w_iast dX12_shelves_86 ln5 e5 ?_
    have w := w _ rfl
    refine w_iconst (v := 1) dX12_shelves_87 rfl ?_
    exact w_ireturn dX12_shelves_88 rfl rfl ⟨Nat.le_refl _, Nat.le_refl _⟩ w
  · rw [if_neg c] at w
    refine v_iinc (l' := [.ref l0, .int l1, .null, .int l3, .int l4, .int (l5 + 1)]) (v := l5 + 1) dX12_shelves_52 rfl rfl (Nat.le_of_ble_eq_true rfl) rfl ?_
    refine w_goto (tgt := 41) dX12_shelves_55 rfl ?_
    exact w
set_option maxRecDepth 20000 in
set_option maxHeartbeats 4000000 in
theorem x_X12_isIn {G : pm_G} {d : Nat} {post : pm_PT} {h : pm_H} {l0 : Nat} {l1 : Int32} (w :
    (h.1[l0]? = some (0, 11)) ∧
    ∃ n1 : Nat, h.1[gp h l0 17]? = some (1, n1) ∧
    (vp_in (240 + l1) n1) ∧
    if (gi h (gp h l0 17) (240 + l1 : Int32).toNatClampNeg) < 0 then (
      post (some (.int 0)) h
    ) else (
      post (some (.int 1)) h
    )) :
    Wp G (m_X12_isIn, d + 1, 0, 0, post) (0, 0) 0 [.ref l0, .int l1] [] h := by
  refine w_aload_n dX12_isIn_0 rfl ?_
  obtain ⟨e1, w⟩ := w
  refine w_getp dX12_isIn_1 lk_RX12_97 e1 rfl ?_
  refine w_sipush (v := 240) dX12_isIn_4 rfl ?_
  refine w_iload_n dX12_isIn_7 rfl ?_
  refine w_iadd dX12_isIn_8 ?_
  obtain ⟨n1, ln1, w⟩ := w
  obtain ⟨e3, w⟩ := w
  refine w_iald dX12_isIn_9 ln1 e3 ?_
  refine w_if_lt (tgt := 17) dX12_isIn_10 rfl (fun c => ?_) (fun c => ?_)
  · rw [if_pos c] at w
    refine w_iconst (v := 0) dX12_isIn_17 rfl ?_
    exact w_ireturn dX12_isIn_18 rfl rfl ⟨Nat.le_refl _, Nat.le_refl _⟩ w
  · rw [if_neg c] at w
    refine w_iconst (v := 1) dX12_isIn_13 rfl ?_
    refine w_goto (tgt := 18) dX12_isIn_14 rfl ?_
    exact w_ireturn dX12_isIn_18 rfl rfl ⟨Nat.le_refl _, Nat.le_refl _⟩ w
set_option maxRecDepth 20000 in
set_option maxHeartbeats 4000000 in
theorem x_X12_put {G : pm_G} {d : Nat} {post : pm_PT} {h : pm_H} {l0 : Nat} {l1 : Int32} {l2 : Int32} (w :
    (h.1[l0]? = some (0, 11)) ∧
    ∀ h1 : pm_H, h1 = si h l0 0 0 →
    ci G d m_X12_isItem [.ref l0, .int l1] h1 fun r2 h3 =>
    if r2 = 0 then (
      post (some (.int 0)) h3
    ) else (
      (h3.1[l0]? = some (0, 11)) ∧
      ci G d m_X12_isHeap [.ref l0, .int l2] h3 fun r4 h5 =>
      if r4 = 0 then (
        post (some (.int 0)) h5
      ) else (
        (h5.1[l0]? = some (0, 11)) ∧
        ci G d m_X12_isIn [.ref l0, .int l1] h5 fun r6 h7 =>
        if r6 = 0 then (
          (h7.1[l0]? = some (0, 11)) ∧
          cv G d m_X12_keeps [.ref l0] h7 fun h9 =>
          (h9.1[l0]? = some (0, 11)) ∧
          cv G d m_X12_puts [.ref l0, .int 0, .int l1, .int l2] h9 fun h11 =>
          post (some (.int 1)) h11
        ) else (
          post (some (.int 0)) h7
        )
      )
    )) :
    Wp G (m_X12_put, d + 1, 0, 0, post) (0, 0) 0 [.ref l0, .int l1, .int l2] [] h := by
  refine w_aload_n dX12_put_0 rfl ?_
  refine w_iconst (v := 0) dX12_put_1 rfl ?_
  obtain ⟨e1, w⟩ := w
  refine w_puti dX12_put_2 lk_RX12_1 e1 rfl (Or.inl rfl) ?_
  have w := w _ rfl
  refine w_aload_n dX12_put_5 rfl ?_
  refine w_iload_n dX12_put_6 rfl ?_
  refine w_callV (As := [.int l1]) (st := []) dX12_put_7 mt_X12_isItem g_1687 g_1689 g_99 rfl e1 rfl rfl (Nat.le_of_ble_eq_true rfl) (Nat.le_refl _) ⟨Nat.le_refl _, Nat.le_refl _⟩ w ?_
  rintro v h3 ⟨r2, rfl, w⟩
  refine w_if_eq (tgt := 29) dX12_put_10 rfl (fun c => ?_) (fun c => ?_)
  · rw [if_pos c] at w
    refine w_iconst (v := 0) dX12_put_29 rfl ?_
    exact w_ireturn dX12_put_30 rfl rfl ⟨Nat.le_refl _, Nat.le_refl _⟩ w
  · rw [if_neg c] at w
    refine w_aload_n dX12_put_13 rfl ?_
    refine w_iload_n dX12_put_14 rfl ?_
    obtain ⟨e1, w⟩ := w
    refine w_callV (As := [.int l2]) (st := []) dX12_put_15 mt_X12_isHeap g_1691 g_1693 g_100 rfl e1 rfl rfl (Nat.le_of_ble_eq_true rfl) (Nat.le_refl _) ⟨Nat.le_refl _, Nat.le_refl _⟩ w ?_
    rintro v h5 ⟨r4, rfl, w⟩
    refine w_if_eq (tgt := 29) dX12_put_18 rfl (fun c => ?_) (fun c => ?_)
    · rw [if_pos c] at w
      refine w_iconst (v := 0) dX12_put_29 rfl ?_
      exact w_ireturn dX12_put_30 rfl rfl ⟨Nat.le_refl _, Nat.le_refl _⟩ w
    · rw [if_neg c] at w
      refine w_aload_n dX12_put_21 rfl ?_
      refine w_iload_n dX12_put_22 rfl ?_
      obtain ⟨e1, w⟩ := w
      refine w_callV (As := [.int l1]) (st := []) dX12_put_23 mt_X12_isIn g_1695 g_1697 g_101 rfl e1 rfl rfl (Nat.le_of_ble_eq_true rfl) (Nat.le_refl _) ⟨Nat.le_refl _, Nat.le_refl _⟩ w ?_
      rintro v h7 ⟨r6, rfl, w⟩
      refine w_if_eq (tgt := 31) dX12_put_26 rfl (fun c => ?_) (fun c => ?_)
      · rw [if_pos c] at w
        refine w_aload_n dX12_put_31 rfl ?_
        obtain ⟨e1, w⟩ := w
        refine w_callV (As := []) (st := []) dX12_put_32 mt_X12_keeps g_1699 g_1701 g_102 rfl e1 rfl rfl (Nat.le_of_ble_eq_true rfl) (Nat.le_refl _) ⟨Nat.le_refl _, Nat.le_refl _⟩ w ?_
        rintro v h9 ⟨rfl, w⟩
        refine w_aload_n dX12_put_35 rfl ?_
        refine w_iconst (v := 0) dX12_put_36 rfl ?_
        refine w_iload_n dX12_put_37 rfl ?_
        refine w_iload_n dX12_put_38 rfl ?_
        obtain ⟨e1, w⟩ := w
        refine w_callV (As := [.int 0, .int l1, .int l2]) (st := []) dX12_put_39 mt_X12_puts g_1412 g_1414 g_57 rfl e1 rfl rfl (Nat.le_of_ble_eq_true rfl) (Nat.le_refl _) ⟨Nat.le_refl _, Nat.le_refl _⟩ w ?_
        rintro v h11 ⟨rfl, w⟩
        refine w_iconst (v := 1) dX12_put_42 rfl ?_
        exact w_ireturn dX12_put_43 rfl rfl ⟨Nat.le_refl _, Nat.le_refl _⟩ w
      · rw [if_neg c] at w
        refine w_iconst (v := 0) dX12_put_29 rfl ?_
        exact w_ireturn dX12_put_30 rfl rfl ⟨Nat.le_refl _, Nat.le_refl _⟩ w
set_option maxRecDepth 20000 in
set_option maxHeartbeats 4000000 in
theorem x_X12_take {G : pm_G} {d : Nat} {post : pm_PT} {h : pm_H} {l0 : Nat} {l1 : Int32} (w :
    (h.1[l0]? = some (0, 11)) ∧
    ∀ h1 : pm_H, h1 = si h l0 0 0 →
    ci G d m_X12_isHeap [.ref l0, .int l1] h1 fun r2 h3 =>
    if r2 = 0 then (
      post (some (.int (-1))) h3
    ) else (
      (h3.1[l0]? = some (0, 11)) ∧
      ci G d m_X12_nextRoot [.ref l0, .int 0, .int l1] h3 fun r4 h5 =>
      if 0 ≤ r4 then (
        (h5.1[l0]? = some (0, 11)) ∧
        cv G d m_X12_keeps [.ref l0] h5 fun h7 =>
        (h7.1[l0]? = some (0, 11)) ∧
        ci G d m_X12_takes [.ref l0, .int 0, .int l1] h7 fun r8 h9 =>
        post (some (.int r8)) h9
      ) else (
        post (some (.int (-1))) h5
      )
    )) :
    Wp G (m_X12_take, d + 1, 0, 0, post) (0, 0) 0 [.ref l0, .int l1] [] h := by
  refine w_aload_n dX12_take_0 rfl ?_
  refine w_iconst (v := 0) dX12_take_1 rfl ?_
  obtain ⟨e1, w⟩ := w
  refine w_puti dX12_take_2 lk_RX12_1 e1 rfl (Or.inl rfl) ?_
  have w := w _ rfl
  refine w_aload_n dX12_take_5 rfl ?_
  refine w_iload_n dX12_take_6 rfl ?_
  refine w_callV (As := [.int l1]) (st := []) dX12_take_7 mt_X12_isHeap g_1691 g_1693 g_100 rfl e1 rfl rfl (Nat.le_of_ble_eq_true rfl) (Nat.le_refl _) ⟨Nat.le_refl _, Nat.le_refl _⟩ w ?_
  rintro v h3 ⟨r2, rfl, w⟩
  refine w_if_eq (tgt := 22) dX12_take_10 rfl (fun c => ?_) (fun c => ?_)
  · rw [if_pos c] at w
    refine w_iconst (v := (-1)) dX12_take_22 rfl ?_
    exact w_ireturn dX12_take_23 rfl rfl ⟨Nat.le_refl _, Nat.le_refl _⟩ w
  · rw [if_neg c] at w
    refine w_aload_n dX12_take_13 rfl ?_
    refine w_iconst (v := 0) dX12_take_14 rfl ?_
    refine w_iload_n dX12_take_15 rfl ?_
    obtain ⟨e1, w⟩ := w
    refine w_callV (As := [.int 0, .int l1]) (st := []) dX12_take_16 mt_X12_nextRoot g_1711 g_1713 g_104 rfl e1 rfl rfl (Nat.le_of_ble_eq_true rfl) (Nat.le_refl _) ⟨Nat.le_refl _, Nat.le_refl _⟩ w ?_
    rintro v h5 ⟨r4, rfl, w⟩
    refine w_if_ge (tgt := 24) dX12_take_19 rfl (fun c => ?_) (fun c => ?_)
    · rw [if_pos c] at w
      refine w_aload_n dX12_take_24 rfl ?_
      obtain ⟨e1, w⟩ := w
      refine w_callV (As := []) (st := []) dX12_take_25 mt_X12_keeps g_1699 g_1701 g_102 rfl e1 rfl rfl (Nat.le_of_ble_eq_true rfl) (Nat.le_refl _) ⟨Nat.le_refl _, Nat.le_refl _⟩ w ?_
      rintro v h7 ⟨rfl, w⟩
      refine w_aload_n dX12_take_28 rfl ?_
      refine w_iconst (v := 0) dX12_take_29 rfl ?_
      refine w_iload_n dX12_take_30 rfl ?_
      obtain ⟨e1, w⟩ := w
      refine w_callV (As := [.int 0, .int l1]) (st := []) dX12_take_31 mt_X12_takes g_1715 g_1717 g_105 rfl e1 rfl rfl (Nat.le_of_ble_eq_true rfl) (Nat.le_refl _) ⟨Nat.le_refl _, Nat.le_refl _⟩ w ?_
      rintro v h9 ⟨r8, rfl, w⟩
      exact w_ireturn dX12_take_34 rfl rfl ⟨Nat.le_refl _, Nat.le_refl _⟩ w
    · rw [if_neg c] at w
      refine w_iconst (v := (-1)) dX12_take_22 rfl ?_
      exact w_ireturn dX12_take_23 rfl rfl ⟨Nat.le_refl _, Nat.le_refl _⟩ w
set_option maxRecDepth 20000 in
set_option maxHeartbeats 4000000 in
theorem x_X12_meld {G : pm_G} {d : Nat} {post : pm_PT} {h : pm_H} {l0 : Nat} {l1 : Int32} {l2 : Int32} (w :
    (h.1[l0]? = some (0, 11)) ∧
    ∀ h1 : pm_H, h1 = si h l0 0 0 →
    ci G d m_X12_isHeap [.ref l0, .int l1] h1 fun r2 h3 =>
    if r2 = 0 then (
      post (some (.int 0)) h3
    ) else (
      (h3.1[l0]? = some (0, 11)) ∧
      ci G d m_X12_isHeap [.ref l0, .int l2] h3 fun r4 h5 =>
      if r4 = 0 then (
        post (some (.int 0)) h5
      ) else (
        if l1 = l2 then (
          post (some (.int 0)) h5
        ) else (
          (h5.1[l0]? = some (0, 11)) ∧
          cv G d m_X12_keeps [.ref l0] h5 fun h7 =>
          (h7.1[l0]? = some (0, 11)) ∧
          cv G d m_X12_melds [.ref l0, .int 0, .int l1, .int l2] h7 fun h9 =>
          post (some (.int 1)) h9
        )
      )
    )) :
    Wp G (m_X12_meld, d + 1, 0, 0, post) (0, 0) 0 [.ref l0, .int l1, .int l2] [] h := by
  refine w_aload_n dX12_meld_0 rfl ?_
  refine w_iconst (v := 0) dX12_meld_1 rfl ?_
  obtain ⟨e1, w⟩ := w
  refine w_puti dX12_meld_2 lk_RX12_1 e1 rfl (Or.inl rfl) ?_
  have w := w _ rfl
  refine w_aload_n dX12_meld_5 rfl ?_
  refine w_iload_n dX12_meld_6 rfl ?_
  refine w_callV (As := [.int l1]) (st := []) dX12_meld_7 mt_X12_isHeap g_1691 g_1693 g_100 rfl e1 rfl rfl (Nat.le_of_ble_eq_true rfl) (Nat.le_refl _) ⟨Nat.le_refl _, Nat.le_refl _⟩ w ?_
  rintro v h3 ⟨r2, rfl, w⟩
  refine w_if_eq (tgt := 26) dX12_meld_10 rfl (fun c => ?_) (fun c => ?_)
  · rw [if_pos c] at w
    refine w_iconst (v := 0) dX12_meld_26 rfl ?_
    exact w_ireturn dX12_meld_27 rfl rfl ⟨Nat.le_refl _, Nat.le_refl _⟩ w
  · rw [if_neg c] at w
    refine w_aload_n dX12_meld_13 rfl ?_
    refine w_iload_n dX12_meld_14 rfl ?_
    obtain ⟨e1, w⟩ := w
    refine w_callV (As := [.int l2]) (st := []) dX12_meld_15 mt_X12_isHeap g_1691 g_1693 g_100 rfl e1 rfl rfl (Nat.le_of_ble_eq_true rfl) (Nat.le_refl _) ⟨Nat.le_refl _, Nat.le_refl _⟩ w ?_
    rintro v h5 ⟨r4, rfl, w⟩
    refine w_if_eq (tgt := 26) dX12_meld_18 rfl (fun c => ?_) (fun c => ?_)
    · rw [if_pos c] at w
      refine w_iconst (v := 0) dX12_meld_26 rfl ?_
      exact w_ireturn dX12_meld_27 rfl rfl ⟨Nat.le_refl _, Nat.le_refl _⟩ w
    · rw [if_neg c] at w
      refine w_iload_n dX12_meld_21 rfl ?_
      refine w_iload_n dX12_meld_22 rfl ?_
      refine w_ic_ne (tgt := 28) dX12_meld_23 rfl (fun c => ?_) (fun c => ?_)
      · rw [if_neg c] at w
        refine w_aload_n dX12_meld_28 rfl ?_
        obtain ⟨e1, w⟩ := w
        refine w_callV (As := []) (st := []) dX12_meld_29 mt_X12_keeps g_1699 g_1701 g_102 rfl e1 rfl rfl (Nat.le_of_ble_eq_true rfl) (Nat.le_refl _) ⟨Nat.le_refl _, Nat.le_refl _⟩ w ?_
        rintro v h7 ⟨rfl, w⟩
        refine w_aload_n dX12_meld_32 rfl ?_
        refine w_iconst (v := 0) dX12_meld_33 rfl ?_
        refine w_iload_n dX12_meld_34 rfl ?_
        refine w_iload_n dX12_meld_35 rfl ?_
        obtain ⟨e1, w⟩ := w
        refine w_callV (As := [.int 0, .int l1, .int l2]) (st := []) dX12_meld_36 mt_X12_melds g_1723 g_1725 g_106 rfl e1 rfl rfl (Nat.le_of_ble_eq_true rfl) (Nat.le_refl _) ⟨Nat.le_refl _, Nat.le_refl _⟩ w ?_
        rintro v h9 ⟨rfl, w⟩
        refine w_iconst (v := 1) dX12_meld_39 rfl ?_
        exact w_ireturn dX12_meld_40 rfl rfl ⟨Nat.le_refl _, Nat.le_refl _⟩ w
      · rw [if_pos c] at w
        refine w_iconst (v := 0) dX12_meld_26 rfl ?_
        exact w_ireturn dX12_meld_27 rfl rfl ⟨Nat.le_refl _, Nat.le_refl _⟩ w
set_option maxRecDepth 20000 in
set_option maxHeartbeats 4000000 in
theorem x_X12_shelve {G : pm_G} {d : Nat} {post : pm_PT} {h : pm_H} {l0 : Nat} {l1 : Int32} {l2 : Int32} (w :
    (h.1[l0]? = some (0, 11)) ∧
    ∀ h1 : pm_H, h1 = si h l0 0 0 →
    ci G d m_X12_isHeap [.ref l0, .int l1] h1 fun r2 h3 =>
    if r2 = 0 then (
      post (some (.int (-1))) h3
    ) else (
      (h3.1[l0]? = some (0, 11)) ∧
      ∃ n4 : Nat, h3.1[gp h3 l0 10]? = some (1, n4) ∧
      (vp_in 1 n4) ∧
      ci G d m_X12_within [.int l2, .int 0, .int ((gi h3 (gp h3 l0 10) (1 : Int32).toNatClampNeg) - 1)] h3 fun r5 h6 =>
      if r5 = 0 then (
        post (some (.int (-1))) h6
      ) else (
        (h6.1[l0]? = some (0, 11)) ∧
        ci G d m_X12_nextRoot [.ref l0, .int 0, .int l1] h6 fun r7 h8 =>
        if 0 ≤ r7 then (
          (h8.1[l0]? = some (0, 11)) ∧
          cv G d m_X12_keeps [.ref l0] h8 fun h10 =>
          (h10.1[l0]? = some (0, 11)) ∧
          ci G d m_X12_shelves [.ref l0, .int 0, .int l1, .int l2] h10 fun r11 h12 =>
          if r11 = 0 then (
            post (some (.int 0)) h12
          ) else (
            post (some (.int 1)) h12
          )
        ) else (
          post (some (.int (-1))) h8
        )
      )
    )) :
    Wp G (m_X12_shelve, d + 1, 0, 0, post) (0, 0) 0 [.ref l0, .int l1, .int l2] [] h := by
  refine w_aload_n dX12_shelve_0 rfl ?_
  refine w_iconst (v := 0) dX12_shelve_1 rfl ?_
  obtain ⟨e1, w⟩ := w
  refine w_puti dX12_shelve_2 lk_RX12_1 e1 rfl (Or.inl rfl) ?_
  have w := w _ rfl
  refine w_aload_n dX12_shelve_5 rfl ?_
  refine w_iload_n dX12_shelve_6 rfl ?_
  refine w_callV (As := [.int l1]) (st := []) dX12_shelve_7 mt_X12_isHeap g_1691 g_1693 g_100 rfl e1 rfl rfl (Nat.le_of_ble_eq_true rfl) (Nat.le_refl _) ⟨Nat.le_refl _, Nat.le_refl _⟩ w ?_
  rintro v h3 ⟨r2, rfl, w⟩
  refine w_if_eq (tgt := 38) dX12_shelve_10 rfl (fun c => ?_) (fun c => ?_)
  · rw [if_pos c] at w
    refine w_iconst (v := (-1)) dX12_shelve_38 rfl ?_
    exact w_ireturn dX12_shelve_39 rfl rfl ⟨Nat.le_refl _, Nat.le_refl _⟩ w
  · rw [if_neg c] at w
    refine w_iload_n dX12_shelve_13 rfl ?_
    refine w_iconst (v := 0) dX12_shelve_14 rfl ?_
    refine w_aload_n dX12_shelve_15 rfl ?_
    obtain ⟨e1, w⟩ := w
    refine w_getp dX12_shelve_16 lk_RX12_79 e1 rfl ?_
    refine w_iconst (v := 1) dX12_shelve_19 rfl ?_
    obtain ⟨n4, ln4, w⟩ := w
    obtain ⟨e3, w⟩ := w
    refine w_iald dX12_shelve_20 ln4 e3 ?_
    refine w_iconst (v := 1) dX12_shelve_21 rfl ?_
    refine w_isub dX12_shelve_22 ?_
    refine w_callS (As := [.int l2, .int 0, .int ((gi h3 (gp h3 l0 10) (1 : Int32).toNatClampNeg) - 1)]) (st := []) dX12_shelve_23 mt_X12_within g_1731 g_1732 rfl rfl (Nat.le_of_ble_eq_true rfl) (Nat.le_refl _) ⟨Nat.le_refl _, Nat.le_refl _⟩ w ?_
    rintro v h6 ⟨r5, rfl, w⟩
    refine w_if_eq (tgt := 38) dX12_shelve_26 rfl (fun c => ?_) (fun c => ?_)
    · rw [if_pos c] at w
      refine w_iconst (v := (-1)) dX12_shelve_38 rfl ?_
      exact w_ireturn dX12_shelve_39 rfl rfl ⟨Nat.le_refl _, Nat.le_refl _⟩ w
    · rw [if_neg c] at w
      refine w_aload_n dX12_shelve_29 rfl ?_
      refine w_iconst (v := 0) dX12_shelve_30 rfl ?_
      refine w_iload_n dX12_shelve_31 rfl ?_
      obtain ⟨e1, w⟩ := w
      refine w_callV (As := [.int 0, .int l1]) (st := []) dX12_shelve_32 mt_X12_nextRoot g_1711 g_1713 g_104 rfl e1 rfl rfl (Nat.le_of_ble_eq_true rfl) (Nat.le_refl _) ⟨Nat.le_refl _, Nat.le_refl _⟩ w ?_
      rintro v h8 ⟨r7, rfl, w⟩
      refine w_if_ge (tgt := 40) dX12_shelve_35 rfl (fun c => ?_) (fun c => ?_)
      · rw [if_pos c] at w
        refine w_aload_n dX12_shelve_40 rfl ?_
        obtain ⟨e1, w⟩ := w
        refine w_callV (As := []) (st := []) dX12_shelve_41 mt_X12_keeps g_1699 g_1701 g_102 rfl e1 rfl rfl (Nat.le_of_ble_eq_true rfl) (Nat.le_refl _) ⟨Nat.le_refl _, Nat.le_refl _⟩ w ?_
        rintro v h10 ⟨rfl, w⟩
        refine w_aload_n dX12_shelve_44 rfl ?_
        refine w_iconst (v := 0) dX12_shelve_45 rfl ?_
        refine w_iload_n dX12_shelve_46 rfl ?_
        refine w_iload_n dX12_shelve_47 rfl ?_
        obtain ⟨e1, w⟩ := w
        refine w_callV (As := [.int 0, .int l1, .int l2]) (st := []) dX12_shelve_48 mt_X12_shelves g_1734 g_1736 g_107 rfl e1 rfl rfl (Nat.le_of_ble_eq_true rfl) (Nat.le_refl _) ⟨Nat.le_refl _, Nat.le_refl _⟩ w ?_
        rintro v h12 ⟨r11, rfl, w⟩
        refine w_if_eq (tgt := 58) dX12_shelve_51 rfl (fun c => ?_) (fun c => ?_)
        · rw [if_pos c] at w
          refine w_iconst (v := 0) dX12_shelve_58 rfl ?_
          exact w_ireturn dX12_shelve_59 rfl rfl ⟨Nat.le_refl _, Nat.le_refl _⟩ w
        · rw [if_neg c] at w
          refine w_iconst (v := 1) dX12_shelve_54 rfl ?_
          refine w_goto (tgt := 59) dX12_shelve_55 rfl ?_
          exact w_ireturn dX12_shelve_59 rfl rfl ⟨Nat.le_refl _, Nat.le_refl _⟩ w
      · rw [if_neg c] at w
        refine w_iconst (v := (-1)) dX12_shelve_38 rfl ?_
        exact w_ireturn dX12_shelve_39 rfl rfl ⟨Nat.le_refl _, Nat.le_refl _⟩ w
set_option maxRecDepth 20000 in
set_option maxHeartbeats 4000000 in
theorem x_X12_undo {G : pm_G} {d : Nat} {post : pm_PT} {h : pm_H} {l0 : Nat} (w :
    (h.1[l0]? = some (0, 11)) ∧
    ∀ h1 : pm_H, h1 = si h l0 0 0 →
    if (gi h1 l0 18) = 0 then (
      post (some (.int 0)) h1
    ) else (
      ∀ h2 : pm_H, h2 = si h1 l0 18 ((gi h1 l0 18) - 1) →
      cv G d m_X12_moves [.ref l0, .int (345 * (3 + (gi h2 l0 18))), .int 0, .int 320] h2 fun h4 =>
      post (some (.int 1)) h4
    )) :
    Wp G (m_X12_undo, d + 1, 0, 0, post) (0, 0) 0 [.ref l0] [] h := by
  refine w_aload_n dX12_undo_0 rfl ?_
  refine w_iconst (v := 0) dX12_undo_1 rfl ?_
  obtain ⟨e1, w⟩ := w
  refine w_puti dX12_undo_2 lk_RX12_1 e1 rfl (Or.inl rfl) ?_
  have w := w _ rfl
  refine w_aload_n dX12_undo_5 rfl ?_
  refine w_geti dX12_undo_6 lk_RX12_289 e1 rfl ?_
  refine w_if_ne (tgt := 14) dX12_undo_9 rfl (fun c => ?_) (fun c => ?_)
  · rw [if_neg c] at w
    refine w_aload_n dX12_undo_14 rfl ?_
    refine w_dup dX12_undo_15 rfl ?_
    refine w_geti dX12_undo_16 lk_RX12_289 e1 rfl ?_
    refine w_iconst (v := 1) dX12_undo_19 rfl ?_
    refine w_isub dX12_undo_20 ?_
    refine w_puti dX12_undo_21 lk_RX12_289 e1 rfl (Or.inl rfl) ?_
    have w := w _ rfl
    refine w_aload_n dX12_undo_24 rfl ?_
    refine w_sipush (v := 345) dX12_undo_25 rfl ?_
    refine w_iconst (v := 3) dX12_undo_28 rfl ?_
    refine w_aload_n dX12_undo_29 rfl ?_
    refine w_geti dX12_undo_30 lk_RX12_289 e1 rfl ?_
    refine w_iadd dX12_undo_33 ?_
    refine w_imul dX12_undo_34 ?_
    refine w_iconst (v := 0) dX12_undo_35 rfl ?_
    refine w_sipush (v := 320) dX12_undo_36 rfl ?_
    refine w_callV (As := [.int (345 * (3 + (gi (si (si h l0 0 0) l0 18 ((gi (si h l0 0 0) l0 18) - 1)) l0 18))), .int 0, .int 320]) (st := []) dX12_undo_39 mt_X12_moves g_1703 g_1705 g_103 rfl e1 rfl rfl (Nat.le_of_ble_eq_true rfl) (Nat.le_refl _) ⟨Nat.le_refl _, Nat.le_refl _⟩ w ?_
    rintro v h4 ⟨rfl, w⟩
    refine w_iconst (v := 1) dX12_undo_42 rfl ?_
    exact w_ireturn dX12_undo_43 rfl rfl ⟨Nat.le_refl _, Nat.le_refl _⟩ w
  · rw [if_pos c] at w
    refine w_iconst (v := 0) dX12_undo_12 rfl ?_
    exact w_ireturn dX12_undo_13 rfl rfl ⟨Nat.le_refl _, Nat.le_refl _⟩ w
set_option maxRecDepth 20000 in
set_option maxHeartbeats 4000000 in
theorem x_X12_isListed {G : pm_G} {d : Nat} {post : pm_PT} {h : pm_H} {l0 : Nat} {l1 : Int32} {l2 : Int32} {l3 : Int32} (w :
    (h.1[l0]? = some (0, 11)) ∧
    ci G d m_X12_nodeOf [.ref l0, .int l1, .int l2, .int 4] h fun r1 h2 =>
    Wp G (m_X12_isListed, d + 1, 0, 0, post) (0, 0) 9 [.ref l0, .int l1, .null, .int l3, .int r1] [] h2) :
    Wp G (m_X12_isListed, d + 1, 0, 0, post) (0, 0) 0 [.ref l0, .int l1, .int l2, .int l3, .null] [] h := by
  refine w_aload_n dX12_isListed_0 rfl ?_
  refine w_iload_n dX12_isListed_1 rfl ?_
  refine w_iload_n dX12_isListed_2 rfl ?_
  refine w_iconst (v := 4) dX12_isListed_3 rfl ?_
  obtain ⟨e1, w⟩ := w
  refine w_callV (As := [.int l1, .int l2, .int 4]) (st := []) dX12_isListed_4 mt_X12_nodeOf g_1420 g_1422 g_59 rfl e1 rfl rfl (Nat.le_of_ble_eq_true rfl) (Nat.le_refl _) ⟨Nat.le_refl _, Nat.le_refl _⟩ w ?_
  rintro v h2 ⟨r1, rfl, w⟩
  refine v_istore (l' := [.ref l0, .int l1, .int l2, .int l3, .int r1]) dX12_isListed_7 (Nat.le_of_ble_eq_true rfl) rfl ?_
  exact w_drop (l' := [.ref l0, .int l1, .null, .int l3, .int r1]) ⟨Or.inr rfl, Or.inr rfl, Or.inl rfl, Or.inr rfl, Or.inr rfl, trivial⟩ w
set_option maxRecDepth 20000 in
set_option maxHeartbeats 4000000 in
theorem x_X12_isListed_9 {G : pm_G} {d : Nat} {post : pm_PT} {h : pm_H} {l0 : Nat} {l1 : Int32} {l3 : Int32} {l4 : Int32} (w :
    if l4 < 0 then (
      post (some (.int 0)) h
    ) else (
      if l4 = l3 then (
        post (some (.int 1)) h
      ) else (
        (h.1[l0]? = some (0, 11)) ∧
        ∃ n1 : Nat, h.1[gp h l0 17]? = some (1, n1) ∧
        (vp_in ((l1 + 300) + l4) n1) ∧
        Wp G (m_X12_isListed, d + 1, 0, 0, post) (0, 0) 9 [.ref l0, .int l1, .null, .int l3, .int (gi h (gp h l0 17) ((l1 + 300) + l4 : Int32).toNatClampNeg)] [] h
      )
    )) :
    Wp G (m_X12_isListed, d + 1, 0, 0, post) (0, 0) 9 [.ref l0, .int l1, .null, .int l3, .int l4] [] h := by
  refine w_iload dX12_isListed_9 rfl ?_
  refine w_if_lt (tgt := 40) dX12_isListed_11 rfl (fun c => ?_) (fun c => ?_)
  · rw [if_pos c] at w
    refine w_iconst (v := 0) dX12_isListed_40 rfl ?_
    exact w_ireturn dX12_isListed_41 rfl rfl ⟨Nat.le_refl _, Nat.le_refl _⟩ w
  · rw [if_neg c] at w
    refine w_iload dX12_isListed_14 rfl ?_
    refine w_iload_n dX12_isListed_16 rfl ?_
    refine w_ic_ne (tgt := 22) dX12_isListed_17 rfl (fun c => ?_) (fun c => ?_)
    · rw [if_neg c] at w
      refine w_aload_n dX12_isListed_22 rfl ?_
      obtain ⟨e1, w⟩ := w
      refine w_getp dX12_isListed_23 lk_RX12_97 e1 rfl ?_
      refine w_iload_n dX12_isListed_26 rfl ?_
      refine w_sipush (v := 300) dX12_isListed_27 rfl ?_
      refine w_iadd dX12_isListed_30 ?_
      refine w_iload dX12_isListed_31 rfl ?_
      refine w_iadd dX12_isListed_33 ?_
      obtain ⟨n1, ln1, w⟩ := w
      obtain ⟨e3, w⟩ := w
      refine w_iald dX12_isListed_34 ln1 e3 ?_
      refine v_istore (l' := [.ref l0, .int l1, .null, .int l3, .int (gi h (gp h l0 17) ((l1 + 300) + l4 : Int32).toNatClampNeg)]) dX12_isListed_35 (Nat.le_of_ble_eq_true rfl) rfl ?_
      refine w_goto (tgt := 9) dX12_isListed_37 rfl ?_
      exact w
    · rw [if_pos c] at w
      refine w_iconst (v := 1) dX12_isListed_20 rfl ?_
      exact w_ireturn dX12_isListed_21 rfl rfl ⟨Nat.le_refl _, Nat.le_refl _⟩ w
set_option maxRecDepth 20000 in
set_option maxHeartbeats 4000000 in
theorem x_X12_nodeWith {G : pm_G} {d : Nat} {post : pm_PT} {h : pm_H} {l0 : Nat} {l1 : Int32} {l2 : Int32} (w :
    Wp G (m_X12_nodeWith, d + 1, 0, 0, post) (0, 0) 5 [.ref l0, .int l1, .int l2, .int (-1), .int 0] [] h) :
    Wp G (m_X12_nodeWith, d + 1, 0, 0, post) (0, 0) 0 [.ref l0, .int l1, .int l2, .null, .null] [] h := by
  refine w_iconst (v := (-1)) dX12_nodeWith_0 rfl ?_
  refine v_istore_n (l' := [.ref l0, .int l1, .int l2, .int (-1), .null]) dX12_nodeWith_1 (Nat.le_of_ble_eq_true rfl) rfl ?_
  refine w_iconst (v := 0) dX12_nodeWith_2 rfl ?_
  refine v_istore (l' := [.ref l0, .int l1, .int l2, .int (-1), .int 0]) dX12_nodeWith_3 (Nat.le_of_ble_eq_true rfl) rfl ?_
  exact w
set_option maxRecDepth 20000 in
set_option maxHeartbeats 4000000 in
theorem x_X12_nodeWith_5 {G : pm_G} {d : Nat} {post : pm_PT} {h : pm_H} {l0 : Nat} {l1 : Int32} {l2 : Int32} {l3 : Int32} {l4 : Int32} (w :
    if 24 ≤ l4 then (
      post (some (.int l3)) h
    ) else (
      (h.1[l0]? = some (0, 11)) ∧
      ci G d m_X12_nodeOf [.ref l0, .int l1, .int l4, .int 0] h fun r1 h2 =>
      if r1 < 0 then (
        Wp G (m_X12_nodeWith, d + 1, 0, 0, post) (0, 0) 5 [.ref l0, .int l1, .int l2, .int l3, .int (l4 + 1)] [] h2
      ) else (
        (h2.1[l0]? = some (0, 11)) ∧
        ci G d m_X12_isListed [.ref l0, .int l1, .int l4, .int l2] h2 fun r3 h4 =>
        if r3 = 0 then (
          Wp G (m_X12_nodeWith, d + 1, 0, 0, post) (0, 0) 5 [.ref l0, .int l1, .int l2, .int l3, .int (l4 + 1)] [] h4
        ) else (
          Wp G (m_X12_nodeWith, d + 1, 0, 0, post) (0, 0) 5 [.ref l0, .int l1, .int l2, .int l4, .int (l4 + 1)] [] h4
        )
      )
    )) :
    Wp G (m_X12_nodeWith, d + 1, 0, 0, post) (0, 0) 5 [.ref l0, .int l1, .int l2, .int l3, .int l4] [] h := by
  refine w_iload dX12_nodeWith_5 rfl ?_
  refine w_bipush (v := 24) dX12_nodeWith_7 rfl ?_
  refine w_ic_ge (tgt := 47) dX12_nodeWith_9 rfl (fun c => ?_) (fun c => ?_)
  · rw [if_pos c] at w
    refine w_iload_n dX12_nodeWith_47 rfl ?_
    exact w_ireturn dX12_nodeWith_48 rfl rfl ⟨Nat.le_refl _, Nat.le_refl _⟩ w
  · rw [if_neg c] at w
    refine w_aload_n dX12_nodeWith_12 rfl ?_
    refine w_iload_n dX12_nodeWith_13 rfl ?_
    refine w_iload dX12_nodeWith_14 rfl ?_
    refine w_iconst (v := 0) dX12_nodeWith_16 rfl ?_
    obtain ⟨e1, w⟩ := w
    refine w_callV (As := [.int l1, .int l4, .int 0]) (st := []) dX12_nodeWith_17 mt_X12_nodeOf g_1420 g_1422 g_59 rfl e1 rfl rfl (Nat.le_of_ble_eq_true rfl) (Nat.le_refl _) ⟨Nat.le_refl _, Nat.le_refl _⟩ w ?_
    rintro v h2 ⟨r1, rfl, w⟩
    refine w_if_lt (tgt := 39) dX12_nodeWith_20 rfl (fun c => ?_) (fun c => ?_)
    · rw [if_pos c] at w
      refine w_iload_n dX12_nodeWith_39 rfl ?_
      refine v_istore_n (l' := [.ref l0, .int l1, .int l2, .int l3, .int l4]) dX12_nodeWith_40 (Nat.le_of_ble_eq_true rfl) rfl ?_
      refine v_iinc (l' := [.ref l0, .int l1, .int l2, .int l3, .int (l4 + 1)]) (v := l4 + 1) dX12_nodeWith_41 rfl rfl (Nat.le_of_ble_eq_true rfl) rfl ?_
      refine w_goto (tgt := 5) dX12_nodeWith_44 rfl ?_
      exact w
    · rw [if_neg c] at w
      refine w_aload_n dX12_nodeWith_23 rfl ?_
      refine w_iload_n dX12_nodeWith_24 rfl ?_
      refine w_iload dX12_nodeWith_25 rfl ?_
      refine w_iload_n dX12_nodeWith_27 rfl ?_
      obtain ⟨e1, w⟩ := w
      refine w_callV (As := [.int l1, .int l4, .int l2]) (st := []) dX12_nodeWith_28 mt_X12_isListed g_1774 g_1776 g_115 rfl e1 rfl rfl (Nat.le_of_ble_eq_true rfl) (Nat.le_refl _) ⟨Nat.le_refl _, Nat.le_refl _⟩ w ?_
      rintro v h4 ⟨r3, rfl, w⟩
      refine w_if_eq (tgt := 39) dX12_nodeWith_31 rfl (fun c => ?_) (fun c => ?_)
      · rw [if_pos c] at w
        refine w_iload_n dX12_nodeWith_39 rfl ?_
        refine v_istore_n (l' := [.ref l0, .int l1, .int l2, .int l3, .int l4]) dX12_nodeWith_40 (Nat.le_of_ble_eq_true rfl) rfl ?_
        refine v_iinc (l' := [.ref l0, .int l1, .int l2, .int l3, .int (l4 + 1)]) (v := l4 + 1) dX12_nodeWith_41 rfl rfl (Nat.le_of_ble_eq_true rfl) rfl ?_
        refine w_goto (tgt := 5) dX12_nodeWith_44 rfl ?_
        exact w
      · rw [if_neg c] at w
        refine w_iload dX12_nodeWith_34 rfl ?_
        refine w_goto (tgt := 40) dX12_nodeWith_36 rfl ?_
        refine v_istore_n (l' := [.ref l0, .int l1, .int l2, .int l4, .int l4]) dX12_nodeWith_40 (Nat.le_of_ble_eq_true rfl) rfl ?_
        refine v_iinc (l' := [.ref l0, .int l1, .int l2, .int l4, .int (l4 + 1)]) (v := l4 + 1) dX12_nodeWith_41 rfl rfl (Nat.le_of_ble_eq_true rfl) rfl ?_
        refine w_goto (tgt := 5) dX12_nodeWith_44 rfl ?_
        exact w
set_option maxRecDepth 20000 in
set_option maxHeartbeats 4000000 in
theorem x_X12_isRaised {G : pm_G} {d : Nat} {post : pm_PT} {h : pm_H} {l0 : Nat} {l1 : Int32} {l2 : Int32} (w :
    (h.1[l0]? = some (0, 11)) ∧
    ci G d m_X12_nodeWith [.ref l0, .int l1, .int l2] h fun r1 h2 =>
    if r1 < 0 then (
      post (some (.int 0)) h2
    ) else (
      (h2.1[l0]? = some (0, 11)) ∧
      ∃ n3 : Nat, h2.1[gp h2 l0 21]? = some (1, n3) ∧
      (vp_in l2 n3) ∧
      ci G d m_X12_nodeOf [.ref l0, .int l1, .int r1, .int 2] h2 fun r4 h5 =>
      if r4 ≤ (gi h2 (gp h2 l0 21) (l2 : Int32).toNatClampNeg) then (
        post (some (.int 0)) h5
      ) else (
        post (some (.int 1)) h5
      )
    )) :
    Wp G (m_X12_isRaised, d + 1, 0, 0, post) (0, 0) 0 [.ref l0, .int l1, .int l2, .null] [] h := by
  refine w_aload_n dX12_isRaised_0 rfl ?_
  refine w_iload_n dX12_isRaised_1 rfl ?_
  refine w_iload_n dX12_isRaised_2 rfl ?_
  obtain ⟨e1, w⟩ := w
  refine w_callV (As := [.int l1, .int l2]) (st := []) dX12_isRaised_3 mt_X12_nodeWith g_1770 g_1772 g_114 rfl e1 rfl rfl (Nat.le_of_ble_eq_true rfl) (Nat.le_refl _) ⟨Nat.le_refl _, Nat.le_refl _⟩ w ?_
  rintro v h2 ⟨r1, rfl, w⟩
  refine v_istore_n (l' := [.ref l0, .int l1, .int l2, .int r1]) dX12_isRaised_6 (Nat.le_of_ble_eq_true rfl) rfl ?_
  refine w_iload_n dX12_isRaised_7 rfl ?_
  refine w_if_lt (tgt := 31) dX12_isRaised_8 rfl (fun c => ?_) (fun c => ?_)
  · rw [if_pos c] at w
    refine w_iconst (v := 0) dX12_isRaised_31 rfl ?_
    exact w_ireturn dX12_isRaised_32 rfl rfl ⟨Nat.le_refl _, Nat.le_refl _⟩ w
  · rw [if_neg c] at w
    refine w_aload_n dX12_isRaised_11 rfl ?_
    obtain ⟨e1, w⟩ := w
    refine w_getp dX12_isRaised_12 lk_RX12_104 e1 rfl ?_
    refine w_iload_n dX12_isRaised_15 rfl ?_
    obtain ⟨n3, ln3, w⟩ := w
    obtain ⟨e3, w⟩ := w
    refine w_iald dX12_isRaised_16 ln3 e3 ?_
    refine w_aload_n dX12_isRaised_17 rfl ?_
    refine w_iload_n dX12_isRaised_18 rfl ?_
    refine w_iload_n dX12_isRaised_19 rfl ?_
    refine w_iconst (v := 2) dX12_isRaised_20 rfl ?_
    refine w_callV (As := [.int l1, .int r1, .int 2]) (st := [.int (gi h2 (gp h2 l0 21) (l2 : Int32).toNatClampNeg)]) dX12_isRaised_21 mt_X12_nodeOf g_1420 g_1422 g_59 rfl e1 rfl rfl (Nat.le_of_ble_eq_true rfl) (Nat.le_refl _) ⟨Nat.le_refl _, Nat.le_refl _⟩ w ?_
    rintro v h5 ⟨r4, rfl, w⟩
    refine w_ic_ge (tgt := 31) dX12_isRaised_24 rfl (fun c => ?_) (fun c => ?_)
    · rw [if_pos c] at w
      refine w_iconst (v := 0) dX12_isRaised_31 rfl ?_
      exact w_ireturn dX12_isRaised_32 rfl rfl ⟨Nat.le_refl _, Nat.le_refl _⟩ w
    · rw [if_neg c] at w
      refine w_iconst (v := 1) dX12_isRaised_27 rfl ?_
      refine w_goto (tgt := 32) dX12_isRaised_28 rfl ?_
      exact w_ireturn dX12_isRaised_32 rfl rfl ⟨Nat.le_refl _, Nat.le_refl _⟩ w
set_option maxRecDepth 20000 in
set_option maxHeartbeats 4000000 in
theorem x_X12_raisedIn {G : pm_G} {d : Nat} {post : pm_PT} {h : pm_H} {l0 : Nat} {l1 : Int32} {l2 : Int32} (w :
    Wp G (m_X12_raisedIn, d + 1, 0, 0, post) (0, 0) 5 [.ref l0, .int l1, .int l2, .int 0, .int 0] [] h) :
    Wp G (m_X12_raisedIn, d + 1, 0, 0, post) (0, 0) 0 [.ref l0, .int l1, .int l2, .null, .null] [] h := by
  refine w_iconst (v := 0) dX12_raisedIn_0 rfl ?_
  refine v_istore_n (l' := [.ref l0, .int l1, .int l2, .int 0, .null]) dX12_raisedIn_1 (Nat.le_of_ble_eq_true rfl) rfl ?_
  refine w_iconst (v := 0) dX12_raisedIn_2 rfl ?_
  refine v_istore (l' := [.ref l0, .int l1, .int l2, .int 0, .int 0]) dX12_raisedIn_3 (Nat.le_of_ble_eq_true rfl) rfl ?_
  exact w
set_option maxRecDepth 20000 in
set_option maxHeartbeats 4000000 in
theorem x_X12_raisedIn_5 {G : pm_G} {d : Nat} {post : pm_PT} {h : pm_H} {l0 : Nat} {l1 : Int32} {l2 : Int32} {l3 : Int32} {l4 : Int32} (w :
    (h.1[l0]? = some (0, 11)) ∧
    ci G d m_X12_items [.ref l0] h fun r1 h2 =>
    if r1 ≤ l4 then (
      post (some (.int l3)) h2
    ) else (
      if l2 < 0 then (
        (h2.1[l0]? = some (0, 11)) ∧
        ci G d m_X12_isRaised [.ref l0, .int l1, .int l4] h2 fun r3 h4 =>
        if r3 = 0 then (
          Wp G (m_X12_raisedIn, d + 1, 0, 0, post) (0, 0) 5 [.ref l0, .int l1, .int l2, .int (l3 + 0), .int (l4 + 1)] [] h4
        ) else (
          Wp G (m_X12_raisedIn, d + 1, 0, 0, post) (0, 0) 5 [.ref l0, .int l1, .int l2, .int (l3 + 1), .int (l4 + 1)] [] h4
        )
      ) else (
        (h2.1[l0]? = some (0, 11)) ∧
        ∃ n5 : Nat, h2.1[gp h2 l0 17]? = some (1, n5) ∧
        (vp_in ((l1 + 240) + l4) n5) ∧
        if (gi h2 (gp h2 l0 17) ((l1 + 240) + l4 : Int32).toNatClampNeg) = l2 then (
          ci G d m_X12_isRaised [.ref l0, .int l1, .int l4] h2 fun r6 h7 =>
          if r6 = 0 then (
            Wp G (m_X12_raisedIn, d + 1, 0, 0, post) (0, 0) 5 [.ref l0, .int l1, .int l2, .int (l3 + 0), .int (l4 + 1)] [] h7
          ) else (
            Wp G (m_X12_raisedIn, d + 1, 0, 0, post) (0, 0) 5 [.ref l0, .int l1, .int l2, .int (l3 + 1), .int (l4 + 1)] [] h7
          )
        ) else (
          Wp G (m_X12_raisedIn, d + 1, 0, 0, post) (0, 0) 5 [.ref l0, .int l1, .int l2, .int (l3 + 0), .int (l4 + 1)] [] h2
        )
      )
    )) :
    Wp G (m_X12_raisedIn, d + 1, 0, 0, post) (0, 0) 5 [.ref l0, .int l1, .int l2, .int l3, .int l4] [] h := by
  refine w_iload dX12_raisedIn_5 rfl ?_
  refine w_aload_n dX12_raisedIn_7 rfl ?_
  obtain ⟨e1, w⟩ := w
  refine w_callV (As := []) (st := [.int l4]) dX12_raisedIn_8 mt_X12_items g_1363 g_1365 g_52 rfl e1 rfl rfl (Nat.le_of_ble_eq_true rfl) (Nat.le_refl _) ⟨Nat.le_refl _, Nat.le_refl _⟩ w ?_
  rintro v h2 ⟨r1, rfl, w⟩
  refine w_ic_ge (tgt := 59) dX12_raisedIn_11 rfl (fun c => ?_) (fun c => ?_)
  · rw [if_pos c] at w
    refine w_iload_n dX12_raisedIn_59 rfl ?_
    exact w_ireturn dX12_raisedIn_60 rfl rfl ⟨Nat.le_refl _, Nat.le_refl _⟩ w
  · rw [if_neg c] at w
    refine w_iload_n dX12_raisedIn_14 rfl ?_
    refine w_iload_n dX12_raisedIn_15 rfl ?_
    refine w_if_lt (tgt := 36) dX12_raisedIn_16 rfl (fun c => ?_) (fun c => ?_)
    · rw [if_pos c] at w
      refine w_aload_n dX12_raisedIn_36 rfl ?_
      refine w_iload_n dX12_raisedIn_37 rfl ?_
      refine w_iload dX12_raisedIn_38 rfl ?_
      obtain ⟨e1, w⟩ := w
      refine w_callV (As := [.int l1, .int l4]) (st := [.int l3]) dX12_raisedIn_40 mt_X12_isRaised g_1766 g_1768 g_113 rfl e1 rfl rfl (Nat.le_of_ble_eq_true rfl) (Nat.le_refl _) ⟨Nat.le_refl _, Nat.le_refl _⟩ w ?_
      rintro v h4 ⟨r3, rfl, w⟩
      refine w_if_eq (tgt := 50) dX12_raisedIn_43 rfl (fun c => ?_) (fun c => ?_)
      · rw [if_pos c] at w
        refine w_iconst (v := 0) dX12_raisedIn_50 rfl ?_
        refine w_iadd dX12_raisedIn_51 ?_
        refine v_istore_n (l' := [.ref l0, .int l1, .int l2, .int (l3 + 0), .int l4]) dX12_raisedIn_52 (Nat.le_of_ble_eq_true rfl) rfl ?_
        refine v_iinc (l' := [.ref l0, .int l1, .int l2, .int (l3 + 0), .int (l4 + 1)]) (v := l4 + 1) dX12_raisedIn_53 rfl rfl (Nat.le_of_ble_eq_true rfl) rfl ?_
        refine w_goto (tgt := 5) dX12_raisedIn_56 rfl ?_
        exact w
      · rw [if_neg c] at w
        refine w_iconst (v := 1) dX12_raisedIn_46 rfl ?_
        refine w_goto (tgt := 51) dX12_raisedIn_47 rfl ?_
        refine w_iadd dX12_raisedIn_51 ?_
        refine v_istore_n (l' := [.ref l0, .int l1, .int l2, .int (l3 + 1), .int l4]) dX12_raisedIn_52 (Nat.le_of_ble_eq_true rfl) rfl ?_
        refine v_iinc (l' := [.ref l0, .int l1, .int l2, .int (l3 + 1), .int (l4 + 1)]) (v := l4 + 1) dX12_raisedIn_53 rfl rfl (Nat.le_of_ble_eq_true rfl) rfl ?_
        refine w_goto (tgt := 5) dX12_raisedIn_56 rfl ?_
        exact w
    · rw [if_neg c] at w
      refine w_aload_n dX12_raisedIn_19 rfl ?_
      obtain ⟨e1, w⟩ := w
      refine w_getp dX12_raisedIn_20 lk_RX12_97 e1 rfl ?_
      refine w_iload_n dX12_raisedIn_23 rfl ?_
      refine w_sipush (v := 240) dX12_raisedIn_24 rfl ?_
      refine w_iadd dX12_raisedIn_27 ?_
      refine w_iload dX12_raisedIn_28 rfl ?_
      refine w_iadd dX12_raisedIn_30 ?_
      obtain ⟨n5, ln5, w⟩ := w
      obtain ⟨e3, w⟩ := w
      refine w_iald dX12_raisedIn_31 ln5 e3 ?_
      refine w_iload_n dX12_raisedIn_32 rfl ?_
      refine w_ic_ne (tgt := 50) dX12_raisedIn_33 rfl (fun c => ?_) (fun c => ?_)
      · rw [if_neg c] at w
        refine w_iconst (v := 0) dX12_raisedIn_50 rfl ?_
        refine w_iadd dX12_raisedIn_51 ?_
        refine v_istore_n (l' := [.ref l0, .int l1, .int l2, .int (l3 + 0), .int l4]) dX12_raisedIn_52 (Nat.le_of_ble_eq_true rfl) rfl ?_
        refine v_iinc (l' := [.ref l0, .int l1, .int l2, .int (l3 + 0), .int (l4 + 1)]) (v := l4 + 1) dX12_raisedIn_53 rfl rfl (Nat.le_of_ble_eq_true rfl) rfl ?_
        refine w_goto (tgt := 5) dX12_raisedIn_56 rfl ?_
        exact w
      · rw [if_pos c] at w
        refine w_aload_n dX12_raisedIn_36 rfl ?_
        refine w_iload_n dX12_raisedIn_37 rfl ?_
        refine w_iload dX12_raisedIn_38 rfl ?_
        refine w_callV (As := [.int l1, .int l4]) (st := [.int l3]) dX12_raisedIn_40 mt_X12_isRaised g_1766 g_1768 g_113 rfl e1 rfl rfl (Nat.le_of_ble_eq_true rfl) (Nat.le_refl _) ⟨Nat.le_refl _, Nat.le_refl _⟩ w ?_
        rintro v h7 ⟨r6, rfl, w⟩
        refine w_if_eq (tgt := 50) dX12_raisedIn_43 rfl (fun c => ?_) (fun c => ?_)
        · rw [if_pos c] at w
          refine w_iconst (v := 0) dX12_raisedIn_50 rfl ?_
          refine w_iadd dX12_raisedIn_51 ?_
          refine v_istore_n (l' := [.ref l0, .int l1, .int l2, .int (l3 + 0), .int l4]) dX12_raisedIn_52 (Nat.le_of_ble_eq_true rfl) rfl ?_
          refine v_iinc (l' := [.ref l0, .int l1, .int l2, .int (l3 + 0), .int (l4 + 1)]) (v := l4 + 1) dX12_raisedIn_53 rfl rfl (Nat.le_of_ble_eq_true rfl) rfl ?_
          refine w_goto (tgt := 5) dX12_raisedIn_56 rfl ?_
          exact w
        · rw [if_neg c] at w
          refine w_iconst (v := 1) dX12_raisedIn_46 rfl ?_
          refine w_goto (tgt := 51) dX12_raisedIn_47 rfl ?_
          refine w_iadd dX12_raisedIn_51 ?_
          refine v_istore_n (l' := [.ref l0, .int l1, .int l2, .int (l3 + 1), .int l4]) dX12_raisedIn_52 (Nat.le_of_ble_eq_true rfl) rfl ?_
          refine v_iinc (l' := [.ref l0, .int l1, .int l2, .int (l3 + 1), .int (l4 + 1)]) (v := l4 + 1) dX12_raisedIn_53 rfl rfl (Nat.le_of_ble_eq_true rfl) rfl ?_
          refine w_goto (tgt := 5) dX12_raisedIn_56 rfl ?_
          exact w
set_option maxRecDepth 20000 in
set_option maxHeartbeats 4000000 in
theorem x_X12_onFloor {G : pm_G} {d : Nat} {post : pm_PT} {h : pm_H} {l0 : Nat} {l1 : Int32} (w :
    Wp G (m_X12_onFloor, d + 1, 0, 0, post) (0, 0) 4 [.ref l0, .int l1, .int 0, .int 0] [] h) :
    Wp G (m_X12_onFloor, d + 1, 0, 0, post) (0, 0) 0 [.ref l0, .int l1, .null, .null] [] h := by
  refine w_iconst (v := 0) dX12_onFloor_0 rfl ?_
  refine v_istore_n (l' := [.ref l0, .int l1, .int 0, .null]) dX12_onFloor_1 (Nat.le_of_ble_eq_true rfl) rfl ?_
  refine w_iconst (v := 0) dX12_onFloor_2 rfl ?_
  refine v_istore_n (l' := [.ref l0, .int l1, .int 0, .int 0]) dX12_onFloor_3 (Nat.le_of_ble_eq_true rfl) rfl ?_
  exact w
set_option maxRecDepth 20000 in
set_option maxHeartbeats 4000000 in
theorem x_X12_onFloor_4 {G : pm_G} {d : Nat} {post : pm_PT} {h : pm_H} {l0 : Nat} {l1 : Int32} {l2 : Int32} {l3 : Int32} (w :
    (h.1[l0]? = some (0, 11)) ∧
    ci G d m_X12_items [.ref l0] h fun r1 h2 =>
    if r1 ≤ l3 then (
      post (some (.int l2)) h2
    ) else (
      (h2.1[l0]? = some (0, 11)) ∧
      ∃ n3 : Nat, h2.1[gp h2 l0 17]? = some (1, n3) ∧
      (vp_in ((l1 + 240) + l3) n3) ∧
      if 0 ≤ (gi h2 (gp h2 l0 17) ((l1 + 240) + l3 : Int32).toNatClampNeg) then (
        Wp G (m_X12_onFloor, d + 1, 0, 0, post) (0, 0) 4 [.ref l0, .int l1, .int (l2 + 0), .int (l3 + 1)] [] h2
      ) else (
        (vp_in ((l1 + 260) + l3) n3) ∧
        if 0 ≤ (gi h2 (gp h2 l0 17) ((l1 + 260) + l3 : Int32).toNatClampNeg) then (
          Wp G (m_X12_onFloor, d + 1, 0, 0, post) (0, 0) 4 [.ref l0, .int l1, .int (l2 + 0), .int (l3 + 1)] [] h2
        ) else (
          Wp G (m_X12_onFloor, d + 1, 0, 0, post) (0, 0) 4 [.ref l0, .int l1, .int (l2 + 1), .int (l3 + 1)] [] h2
        )
      )
    )) :
    Wp G (m_X12_onFloor, d + 1, 0, 0, post) (0, 0) 4 [.ref l0, .int l1, .int l2, .int l3] [] h := by
  refine w_iload_n dX12_onFloor_4 rfl ?_
  refine w_aload_n dX12_onFloor_5 rfl ?_
  obtain ⟨e1, w⟩ := w
  refine w_callV (As := []) (st := [.int l3]) dX12_onFloor_6 mt_X12_items g_1363 g_1365 g_52 rfl e1 rfl rfl (Nat.le_of_ble_eq_true rfl) (Nat.le_refl _) ⟨Nat.le_refl _, Nat.le_refl _⟩ w ?_
  rintro v h2 ⟨r1, rfl, w⟩
  refine w_ic_ge (tgt := 56) dX12_onFloor_9 rfl (fun c => ?_) (fun c => ?_)
  · rw [if_pos c] at w
    refine w_iload_n dX12_onFloor_56 rfl ?_
    exact w_ireturn dX12_onFloor_57 rfl rfl ⟨Nat.le_refl _, Nat.le_refl _⟩ w
  · rw [if_neg c] at w
    refine w_iload_n dX12_onFloor_12 rfl ?_
    refine w_aload_n dX12_onFloor_13 rfl ?_
    obtain ⟨e1, w⟩ := w
    refine w_getp dX12_onFloor_14 lk_RX12_97 e1 rfl ?_
    refine w_iload_n dX12_onFloor_17 rfl ?_
    refine w_sipush (v := 240) dX12_onFloor_18 rfl ?_
    refine w_iadd dX12_onFloor_21 ?_
    refine w_iload_n dX12_onFloor_22 rfl ?_
    refine w_iadd dX12_onFloor_23 ?_
    obtain ⟨n3, ln3, w⟩ := w
    obtain ⟨e3, w⟩ := w
    refine w_iald dX12_onFloor_24 ln3 e3 ?_
    refine w_if_ge (tgt := 47) dX12_onFloor_25 rfl (fun c => ?_) (fun c => ?_)
    · rw [if_pos c] at w
      refine w_iconst (v := 0) dX12_onFloor_47 rfl ?_
      refine w_iadd dX12_onFloor_48 ?_
      refine v_istore_n (l' := [.ref l0, .int l1, .int (l2 + 0), .int l3]) dX12_onFloor_49 (Nat.le_of_ble_eq_true rfl) rfl ?_
      refine v_iinc (l' := [.ref l0, .int l1, .int (l2 + 0), .int (l3 + 1)]) (v := l3 + 1) dX12_onFloor_50 rfl rfl (Nat.le_of_ble_eq_true rfl) rfl ?_
      refine w_goto (tgt := 4) dX12_onFloor_53 rfl ?_
      exact w
    · rw [if_neg c] at w
      refine w_aload_n dX12_onFloor_28 rfl ?_
      refine w_getp dX12_onFloor_29 lk_RX12_97 e1 rfl ?_
      refine w_iload_n dX12_onFloor_32 rfl ?_
      refine w_sipush (v := 260) dX12_onFloor_33 rfl ?_
      refine w_iadd dX12_onFloor_36 ?_
      refine w_iload_n dX12_onFloor_37 rfl ?_
      refine w_iadd dX12_onFloor_38 ?_
      obtain ⟨e4, w⟩ := w
      refine w_iald dX12_onFloor_39 ln3 e4 ?_
      refine w_if_ge (tgt := 47) dX12_onFloor_40 rfl (fun c => ?_) (fun c => ?_)
      · rw [if_pos c] at w
        refine w_iconst (v := 0) dX12_onFloor_47 rfl ?_
        refine w_iadd dX12_onFloor_48 ?_
        refine v_istore_n (l' := [.ref l0, .int l1, .int (l2 + 0), .int l3]) dX12_onFloor_49 (Nat.le_of_ble_eq_true rfl) rfl ?_
        refine v_iinc (l' := [.ref l0, .int l1, .int (l2 + 0), .int (l3 + 1)]) (v := l3 + 1) dX12_onFloor_50 rfl rfl (Nat.le_of_ble_eq_true rfl) rfl ?_
        refine w_goto (tgt := 4) dX12_onFloor_53 rfl ?_
        exact w
      · rw [if_neg c] at w
        refine w_iconst (v := 1) dX12_onFloor_43 rfl ?_
        refine w_goto (tgt := 48) dX12_onFloor_44 rfl ?_
        refine w_iadd dX12_onFloor_48 ?_
        refine v_istore_n (l' := [.ref l0, .int l1, .int (l2 + 1), .int l3]) dX12_onFloor_49 (Nat.le_of_ble_eq_true rfl) rfl ?_
        refine v_iinc (l' := [.ref l0, .int l1, .int (l2 + 1), .int (l3 + 1)]) (v := l3 + 1) dX12_onFloor_50 rfl rfl (Nat.le_of_ble_eq_true rfl) rfl ?_
        refine w_goto (tgt := 4) dX12_onFloor_53 rfl ?_
        exact w
set_option maxRecDepth 20000 in
set_option maxHeartbeats 4000000 in
theorem x_X12_judged {G : pm_G} {d : Nat} {post : pm_PT} {h : pm_H} {l0 : Nat} {l1 : Int32} (w :
    (h.1[l0]? = some (0, 11)) ∧
    ∀ h1 : pm_H, h1 = si h l0 0 0 →
    ci G d m_X12_within [.int l1, .int 0, .int 2] h1 fun r2 h3 =>
    if r2 = 0 then (
      post (some (.int (-2))) h3
    ) else (
      (h3.1[l0]? = some (0, 11)) ∧
      cv G d m_X12_starts [.ref l0, .int 3795] h3 fun h5 =>
      Wp G (m_X12_judged, d + 1, 0, 0, post) (0, 0) 28 [.ref l0, .int l1, .int (-1), .int 0] [] h5
    )) :
    Wp G (m_X12_judged, d + 1, 0, 0, post) (0, 0) 0 [.ref l0, .int l1, .null, .null] [] h := by
  refine w_aload_n dX12_judged_0 rfl ?_
  refine w_iconst (v := 0) dX12_judged_1 rfl ?_
  obtain ⟨e1, w⟩ := w
  refine w_puti dX12_judged_2 lk_RX12_1 e1 rfl (Or.inl rfl) ?_
  have w := w _ rfl
  refine w_iload_n dX12_judged_5 rfl ?_
  refine w_iconst (v := 0) dX12_judged_6 rfl ?_
  refine w_iconst (v := 2) dX12_judged_7 rfl ?_
  refine w_callS (As := [.int l1, .int 0, .int 2]) (st := []) dX12_judged_8 mt_X12_within g_1731 g_1732 rfl rfl (Nat.le_of_ble_eq_true rfl) (Nat.le_refl _) ⟨Nat.le_refl _, Nat.le_refl _⟩ w ?_
  rintro v h3 ⟨r2, rfl, w⟩
  refine w_if_ne (tgt := 17) dX12_judged_11 rfl (fun c => ?_) (fun c => ?_)
  · rw [if_neg c] at w
    refine w_aload_n dX12_judged_17 rfl ?_
    refine w_sipush (v := 3795) dX12_judged_18 rfl ?_
    obtain ⟨e1, w⟩ := w
    refine w_callV (As := [.int 3795]) (st := []) dX12_judged_21 mt_X12_starts g_1404 g_1406 g_55 rfl e1 rfl rfl (Nat.le_of_ble_eq_true rfl) (Nat.le_refl _) ⟨Nat.le_refl _, Nat.le_refl _⟩ w ?_
    rintro v h5 ⟨rfl, w⟩
    refine w_iconst (v := (-1)) dX12_judged_24 rfl ?_
    refine v_istore_n (l' := [.ref l0, .int l1, .int (-1), .null]) dX12_judged_25 (Nat.le_of_ble_eq_true rfl) rfl ?_
    refine w_iconst (v := 0) dX12_judged_26 rfl ?_
    refine v_istore_n (l' := [.ref l0, .int l1, .int (-1), .int 0]) dX12_judged_27 (Nat.le_of_ble_eq_true rfl) rfl ?_
    exact w
  · rw [if_pos c] at w
    refine w_bipush (v := (-2)) dX12_judged_14 rfl ?_
    exact w_ireturn dX12_judged_16 rfl rfl ⟨Nat.le_refl _, Nat.le_refl _⟩ w
set_option maxRecDepth 20000 in
set_option maxHeartbeats 4000000 in
theorem x_X12_judged_28 {G : pm_G} {d : Nat} {post : pm_PT} {h : pm_H} {l0 : Nat} {l1 : Int32} {l2 : Int32} {l3 : Int32} (w :
    (h.1[l0]? = some (0, 11)) ∧
    ∃ n1 : Nat, h.1[gp h l0 14]? = some (1, n1) ∧
    (vp_in 0 n1) ∧
    if (gi h (gp h l0 14) (0 : Int32).toNatClampNeg) ≤ l3 then (
      if l1 = 0 then (
        post (some (.int l2)) h
      ) else (
        if l1 = 1 then (
          ci G d m_X12_onFloor [.ref l0, .int 3795] h fun r2 h3 =>
          post (some (.int r2)) h3
        ) else (
          ci G d m_X12_raisedIn [.ref l0, .int 3795, .int (-1)] h fun r4 h5 =>
          post (some (.int r4)) h5
        )
      )
    ) else (
      (vp_in (1 + (3 * l3)) n1) ∧
      (vp_in (2 + (3 * l3)) n1) ∧
      (vp_in (3 + (3 * l3)) n1) ∧
      ci G d m_X12_doesLine [.ref l0, .int 3795, .int (gi h (gp h l0 14) (1 + (3 * l3) : Int32).toNatClampNeg), .int (gi h (gp h l0 14) (2 + (3 * l3) : Int32).toNatClampNeg), .int (gi h (gp h l0 14) (3 + (3 * l3) : Int32).toNatClampNeg)] h fun r6 h7 =>
      if r6 = 0 then (
        if 0 ≤ l2 then (
          Wp G (m_X12_judged, d + 1, 0, 0, post) (0, 0) 28 [.ref l0, .int l1, .int l2, .int (l3 + 1)] [] h7
        ) else (
          Wp G (m_X12_judged, d + 1, 0, 0, post) (0, 0) 28 [.ref l0, .int l1, .int l3, .int (l3 + 1)] [] h7
        )
      ) else (
        Wp G (m_X12_judged, d + 1, 0, 0, post) (0, 0) 28 [.ref l0, .int l1, .int l2, .int (l3 + 1)] [] h7
      )
    )) :
    Wp G (m_X12_judged, d + 1, 0, 0, post) (0, 0) 28 [.ref l0, .int l1, .int l2, .int l3] [] h := by
  refine w_iload_n dX12_judged_28 rfl ?_
  refine w_aload_n dX12_judged_29 rfl ?_
  obtain ⟨e1, w⟩ := w
  refine w_getp dX12_judged_30 lk_RX12_88 e1 rfl ?_
  refine w_iconst (v := 0) dX12_judged_33 rfl ?_
  obtain ⟨n1, ln1, w⟩ := w
  obtain ⟨e3, w⟩ := w
  refine w_iald dX12_judged_34 ln1 e3 ?_
  refine w_ic_ge (tgt := 94) dX12_judged_35 rfl (fun c => ?_) (fun c => ?_)
  · rw [if_pos c] at w
    refine w_iload_n dX12_judged_94 rfl ?_
    refine w_if_ne (tgt := 102) dX12_judged_95 rfl (fun c => ?_) (fun c => ?_)
    · rw [if_neg c] at w
      refine w_iload_n dX12_judged_102 rfl ?_
      refine w_iconst (v := 1) dX12_judged_103 rfl ?_
      refine w_ic_ne (tgt := 117) dX12_judged_104 rfl (fun c => ?_) (fun c => ?_)
      · rw [if_neg c] at w
        refine w_aload_n dX12_judged_117 rfl ?_
        refine w_sipush (v := 3795) dX12_judged_118 rfl ?_
        refine w_iconst (v := (-1)) dX12_judged_121 rfl ?_
        refine w_callV (As := [.int 3795, .int (-1)]) (st := []) dX12_judged_122 mt_X12_raisedIn g_1762 g_1764 g_112 rfl e1 rfl rfl (Nat.le_of_ble_eq_true rfl) (Nat.le_refl _) ⟨Nat.le_refl _, Nat.le_refl _⟩ w ?_
        rintro v h5 ⟨r4, rfl, w⟩
        exact w_ireturn dX12_judged_125 rfl rfl ⟨Nat.le_refl _, Nat.le_refl _⟩ w
      · rw [if_pos c] at w
        refine w_aload_n dX12_judged_107 rfl ?_
        refine w_sipush (v := 3795) dX12_judged_108 rfl ?_
        refine w_callV (As := [.int 3795]) (st := []) dX12_judged_111 mt_X12_onFloor g_1758 g_1760 g_111 rfl e1 rfl rfl (Nat.le_of_ble_eq_true rfl) (Nat.le_refl _) ⟨Nat.le_refl _, Nat.le_refl _⟩ w ?_
        rintro v h3 ⟨r2, rfl, w⟩
        refine w_goto (tgt := 125) dX12_judged_114 rfl ?_
        exact w_ireturn dX12_judged_125 rfl rfl ⟨Nat.le_refl _, Nat.le_refl _⟩ w
    · rw [if_pos c] at w
      refine w_iload_n dX12_judged_98 rfl ?_
      refine w_goto (tgt := 125) dX12_judged_99 rfl ?_
      exact w_ireturn dX12_judged_125 rfl rfl ⟨Nat.le_refl _, Nat.le_refl _⟩ w
  · rw [if_neg c] at w
    refine w_aload_n dX12_judged_38 rfl ?_
    refine w_sipush (v := 3795) dX12_judged_39 rfl ?_
    refine w_aload_n dX12_judged_42 rfl ?_
    refine w_getp dX12_judged_43 lk_RX12_88 e1 rfl ?_
    refine w_iconst (v := 1) dX12_judged_46 rfl ?_
    refine w_iconst (v := 3) dX12_judged_47 rfl ?_
    refine w_iload_n dX12_judged_48 rfl ?_
    refine w_imul dX12_judged_49 ?_
    refine w_iadd dX12_judged_50 ?_
    obtain ⟨e4, w⟩ := w
    refine w_iald dX12_judged_51 ln1 e4 ?_
    refine w_aload_n dX12_judged_52 rfl ?_
    refine w_getp dX12_judged_53 lk_RX12_88 e1 rfl ?_
    refine w_iconst (v := 2) dX12_judged_56 rfl ?_
    refine w_iconst (v := 3) dX12_judged_57 rfl ?_
    refine w_iload_n dX12_judged_58 rfl ?_
    refine w_imul dX12_judged_59 ?_
    refine w_iadd dX12_judged_60 ?_
    obtain ⟨e5, w⟩ := w
    refine w_iald dX12_judged_61 ln1 e5 ?_
    refine w_aload_n dX12_judged_62 rfl ?_
    refine w_getp dX12_judged_63 lk_RX12_88 e1 rfl ?_
    refine w_iconst (v := 3) dX12_judged_66 rfl ?_
    refine w_iconst (v := 3) dX12_judged_67 rfl ?_
    refine w_iload_n dX12_judged_68 rfl ?_
    refine w_imul dX12_judged_69 ?_
    refine w_iadd dX12_judged_70 ?_
    obtain ⟨e6, w⟩ := w
    refine w_iald dX12_judged_71 ln1 e6 ?_
    refine w_callV (As := [.int 3795, .int (gi h (gp h l0 14) (1 + (3 * l3) : Int32).toNatClampNeg), .int (gi h (gp h l0 14) (2 + (3 * l3) : Int32).toNatClampNeg), .int (gi h (gp h l0 14) (3 + (3 * l3) : Int32).toNatClampNeg)]) (st := []) dX12_judged_72 mt_X12_doesLine g_1754 g_1756 g_110 rfl e1 rfl rfl (Nat.le_of_ble_eq_true rfl) (Nat.le_refl _) ⟨Nat.le_refl _, Nat.le_refl _⟩ w ?_
    rintro v h7 ⟨r6, rfl, w⟩
    refine w_if_ne (tgt := 86) dX12_judged_75 rfl (fun c => ?_) (fun c => ?_)
    · rw [if_neg c] at w
      refine w_iload_n dX12_judged_86 rfl ?_
      refine v_istore_n (l' := [.ref l0, .int l1, .int l2, .int l3]) dX12_judged_87 (Nat.le_of_ble_eq_true rfl) rfl ?_
      refine v_iinc (l' := [.ref l0, .int l1, .int l2, .int (l3 + 1)]) (v := l3 + 1) dX12_judged_88 rfl rfl (Nat.le_of_ble_eq_true rfl) rfl ?_
      refine w_goto (tgt := 28) dX12_judged_91 rfl ?_
      exact w
    · rw [if_pos c] at w
      refine w_iload_n dX12_judged_78 rfl ?_
      refine w_if_ge (tgt := 86) dX12_judged_79 rfl (fun c => ?_) (fun c => ?_)
      · rw [if_pos c] at w
        refine w_iload_n dX12_judged_86 rfl ?_
        refine v_istore_n (l' := [.ref l0, .int l1, .int l2, .int l3]) dX12_judged_87 (Nat.le_of_ble_eq_true rfl) rfl ?_
        refine v_iinc (l' := [.ref l0, .int l1, .int l2, .int (l3 + 1)]) (v := l3 + 1) dX12_judged_88 rfl rfl (Nat.le_of_ble_eq_true rfl) rfl ?_
        refine w_goto (tgt := 28) dX12_judged_91 rfl ?_
        exact w
      · rw [if_neg c] at w
        refine w_iload_n dX12_judged_82 rfl ?_
        refine w_goto (tgt := 87) dX12_judged_83 rfl ?_
        refine v_istore_n (l' := [.ref l0, .int l1, .int l3, .int l3]) dX12_judged_87 (Nat.le_of_ble_eq_true rfl) rfl ?_
        refine v_iinc (l' := [.ref l0, .int l1, .int l3, .int (l3 + 1)]) (v := l3 + 1) dX12_judged_88 rfl rfl (Nat.le_of_ble_eq_true rfl) rfl ?_
        refine w_goto (tgt := 28) dX12_judged_91 rfl ?_
        exact w
set_option maxRecDepth 20000 in
set_option maxHeartbeats 4000000 in
theorem x_X12_doesLine {G : pm_G} {d : Nat} {post : pm_PT} {h : pm_H} {l0 : Nat} {l1 : Int32} {l2 : Int32} {l3 : Int32} {l4 : Int32} (w :
    if l2 = 0 then (
      (h.1[l0]? = some (0, 11)) ∧
      ∃ n7 : Nat, h.1[gp h l0 17]? = some (1, n7) ∧
      (vp_in ((l1 + 240) + l3) n7) ∧
      if (gi h (gp h l0 17) ((l1 + 240) + l3 : Int32).toNatClampNeg) < 0 then (
        cv G d m_X12_puts [.ref l0, .int l1, .int l3, .int l4] h fun h9 =>
        post (some (.int 1)) h9
      ) else (
        post (some (.int 0)) h
      )
    ) else (
    if l2 = 2 then (
      (h.1[l0]? = some (0, 11)) ∧
      cv G d m_X12_melds [.ref l0, .int l1, .int l3, .int l4] h fun h11 =>
      post (some (.int 1)) h11
    ) else (
    (h.1[l0]? = some (0, 11)) ∧
    ci G d m_X12_nextRoot [.ref l0, .int l1, .int l3] h fun r1 h2 =>
    if 0 ≤ r1 then (
      if l2 = 1 then (
        (h2.1[l0]? = some (0, 11)) ∧
        ci G d m_X12_takes [.ref l0, .int l1, .int l3] h2 fun r3 h4 =>
        post (some (.int 1)) h4
      ) else (
        (h2.1[l0]? = some (0, 11)) ∧
        ci G d m_X12_shelves [.ref l0, .int l1, .int l3, .int l4] h2 fun r5 h6 =>
        post (some (.int 1)) h6
      )
    ) else (
      post (some (.int 0)) h2
    )
    ))) :
    Wp G (m_X12_doesLine, d + 1, 0, 0, post) (0, 0) 0 [.ref l0, .int l1, .int l2, .int l3, .int l4] [] h := by
  refine w_iload_n dX12_doesLine_0 rfl ?_
  by_cases c0 : l2 = 0
  · rw [if_pos c0] at w
    refine w_lsw (tgt := 28) dX12_doesLine_1 (by decide) (by rw [c0]; decide) ?_
    refine w_aload_n dX12_doesLine_28 rfl ?_
    obtain ⟨e1, w⟩ := w
    refine w_getp dX12_doesLine_29 lk_RX12_97 e1 rfl ?_
    refine w_iload_n dX12_doesLine_32 rfl ?_
    refine w_sipush (v := 240) dX12_doesLine_33 rfl ?_
    refine w_iadd dX12_doesLine_36 ?_
    refine w_iload_n dX12_doesLine_37 rfl ?_
    refine w_iadd dX12_doesLine_38 ?_
    obtain ⟨n7, ln7, w⟩ := w
    obtain ⟨e3, w⟩ := w
    refine w_iald dX12_doesLine_39 ln7 e3 ?_
    refine w_if_lt (tgt := 45) dX12_doesLine_40 rfl (fun c => ?_) (fun c => ?_)
    · rw [if_pos c] at w
      refine w_aload_n dX12_doesLine_45 rfl ?_
      refine w_iload_n dX12_doesLine_46 rfl ?_
      refine w_iload_n dX12_doesLine_47 rfl ?_
      refine w_iload dX12_doesLine_48 rfl ?_
      refine w_callV (As := [.int l1, .int l3, .int l4]) (st := []) dX12_doesLine_50 mt_X12_puts g_1412 g_1414 g_57 rfl e1 rfl rfl (Nat.le_of_ble_eq_true rfl) (Nat.le_refl _) ⟨Nat.le_refl _, Nat.le_refl _⟩ w ?_
      rintro v h9 ⟨rfl, w⟩
      refine w_iconst (v := 1) dX12_doesLine_53 rfl ?_
      exact w_ireturn dX12_doesLine_54 rfl rfl ⟨Nat.le_refl _, Nat.le_refl _⟩ w
    · rw [if_neg c] at w
      refine w_iconst (v := 0) dX12_doesLine_43 rfl ?_
      exact w_ireturn dX12_doesLine_44 rfl rfl ⟨Nat.le_refl _, Nat.le_refl _⟩ w
  rw [if_neg c0] at w
  by_cases c2 : l2 = 2
  · rw [if_pos c2] at w
    refine w_lsw (tgt := 55) dX12_doesLine_1 (by decide) (by rw [c2]; decide) ?_
    refine w_aload_n dX12_doesLine_55 rfl ?_
    refine w_iload_n dX12_doesLine_56 rfl ?_
    refine w_iload_n dX12_doesLine_57 rfl ?_
    refine w_iload dX12_doesLine_58 rfl ?_
    obtain ⟨e1, w⟩ := w
    refine w_callV (As := [.int l1, .int l3, .int l4]) (st := []) dX12_doesLine_60 mt_X12_melds g_1723 g_1725 g_106 rfl e1 rfl rfl (Nat.le_of_ble_eq_true rfl) (Nat.le_refl _) ⟨Nat.le_refl _, Nat.le_refl _⟩ w ?_
    rintro v h11 ⟨rfl, w⟩
    refine w_iconst (v := 1) dX12_doesLine_63 rfl ?_
    exact w_ireturn dX12_doesLine_64 rfl rfl ⟨Nat.le_refl _, Nat.le_refl _⟩ w
  rw [if_neg c2] at w
  refine w_lsw (tgt := 65) dX12_doesLine_1 (by decide) (by rw [pm_lsw_none (fun a ha q => by simp at ha; rcases ha with rfl | rfl <;> first | exact c0 (Int32.toInt_inj.mp (q.symm.trans (by decide))) | exact c2 (Int32.toInt_inj.mp (q.symm.trans (by decide))))]; rfl) ?_
  refine w_aload_n dX12_doesLine_65 rfl ?_
  refine w_iload_n dX12_doesLine_66 rfl ?_
  refine w_iload_n dX12_doesLine_67 rfl ?_
  obtain ⟨e1, w⟩ := w
  refine w_callV (As := [.int l1, .int l3]) (st := []) dX12_doesLine_68 mt_X12_nextRoot g_1711 g_1713 g_104 rfl e1 rfl rfl (Nat.le_of_ble_eq_true rfl) (Nat.le_refl _) ⟨Nat.le_refl _, Nat.le_refl _⟩ w ?_
  rintro v h2 ⟨r1, rfl, w⟩
  refine w_if_ge (tgt := 76) dX12_doesLine_71 rfl (fun c => ?_) (fun c => ?_)
  · rw [if_pos c] at w
    refine w_iload_n dX12_doesLine_76 rfl ?_
    refine w_iconst (v := 1) dX12_doesLine_77 rfl ?_
    refine w_ic_ne (tgt := 91) dX12_doesLine_78 rfl (fun c => ?_) (fun c => ?_)
    · rw [if_neg c] at w
      refine w_aload_n dX12_doesLine_91 rfl ?_
      refine w_iload_n dX12_doesLine_92 rfl ?_
      refine w_iload_n dX12_doesLine_93 rfl ?_
      refine w_iload dX12_doesLine_94 rfl ?_
      obtain ⟨e1, w⟩ := w
      refine w_callV (As := [.int l1, .int l3, .int l4]) (st := []) dX12_doesLine_96 mt_X12_shelves g_1734 g_1736 g_107 rfl e1 rfl rfl (Nat.le_of_ble_eq_true rfl) (Nat.le_refl _) ⟨Nat.le_refl _, Nat.le_refl _⟩ w ?_
      rintro v h6 ⟨r5, rfl, w⟩
      refine w_pop dX12_doesLine_99 rfl ?_
      refine w_iconst (v := 1) dX12_doesLine_100 rfl ?_
      exact w_ireturn dX12_doesLine_101 rfl rfl ⟨Nat.le_refl _, Nat.le_refl _⟩ w
    · rw [if_pos c] at w
      refine w_aload_n dX12_doesLine_81 rfl ?_
      refine w_iload_n dX12_doesLine_82 rfl ?_
      refine w_iload_n dX12_doesLine_83 rfl ?_
      obtain ⟨e1, w⟩ := w
      refine w_callV (As := [.int l1, .int l3]) (st := []) dX12_doesLine_84 mt_X12_takes g_1715 g_1717 g_105 rfl e1 rfl rfl (Nat.le_of_ble_eq_true rfl) (Nat.le_refl _) ⟨Nat.le_refl _, Nat.le_refl _⟩ w ?_
      rintro v h4 ⟨r3, rfl, w⟩
      refine w_pop dX12_doesLine_87 rfl ?_
      refine w_goto (tgt := 100) dX12_doesLine_88 rfl ?_
      refine w_iconst (v := 1) dX12_doesLine_100 rfl ?_
      exact w_ireturn dX12_doesLine_101 rfl rfl ⟨Nat.le_refl _, Nat.le_refl _⟩ w
  · rw [if_neg c] at w
    refine w_iconst (v := 0) dX12_doesLine_74 rfl ?_
    exact w_ireturn dX12_doesLine_75 rfl rfl ⟨Nat.le_refl _, Nat.le_refl _⟩ w
set_option maxRecDepth 20000 in
set_option maxHeartbeats 4000000 in
theorem x_X12_item {G : pm_G} {d : Nat} {post : pm_PT} {h : pm_H} {l0 : Nat} {l1 : Int32} {l2 : Int32} (w :
    (h.1[l0]? = some (0, 11)) ∧
    ∀ h1 : pm_H, h1 = si h l0 0 0 →
    ci G d m_X12_isItem [.ref l0, .int l1] h1 fun r2 h3 =>
    if r2 = 0 then (
      post (some (.int (-2))) h3
    ) else (
      ci G d m_X12_within [.int l2, .int 0, .int 4] h3 fun r4 h5 =>
      if r4 = 0 then (
        post (some (.int (-2))) h5
      ) else (
        if l2 = 0 then (
          (h5.1[l0]? = some (0, 11)) ∧
          ci G d m_X12_itemOf [.ref l0, .int l1, .int 0] h5 fun r8 h9 =>
          post (some (.int r8)) h9
        ) else (
        if l2 = 1 then (
          (h5.1[l0]? = some (0, 11)) ∧
          ∃ n10 : Nat, h5.1[gp h5 l0 17]? = some (1, n10) ∧
          (vp_in (240 + l1) n10) ∧
          post (some (.int (gi h5 (gp h5 l0 17) (240 + l1 : Int32).toNatClampNeg))) h5
        ) else (
        if l2 = 2 then (
          (h5.1[l0]? = some (0, 11)) ∧
          ∃ n11 : Nat, h5.1[gp h5 l0 17]? = some (1, n11) ∧
          (vp_in (260 + l1) n11) ∧
          post (some (.int (gi h5 (gp h5 l0 17) (260 + l1 : Int32).toNatClampNeg))) h5
        ) else (
        if l2 = 3 then (
          (h5.1[l0]? = some (0, 11)) ∧
          ∃ n12 : Nat, h5.1[gp h5 l0 17]? = some (1, n12) ∧
          (vp_in (280 + l1) n12) ∧
          post (some (.int (gi h5 (gp h5 l0 17) (280 + l1 : Int32).toNatClampNeg))) h5
        ) else (
        (h5.1[l0]? = some (0, 11)) ∧
        ci G d m_X12_isRaised [.ref l0, .int 0, .int l1] h5 fun r6 h7 =>
        if r6 = 0 then (
          post (some (.int 0)) h7
        ) else (
          post (some (.int 1)) h7
        )
        ))))
      )
    )) :
    Wp G (m_X12_item, d + 1, 0, 0, post) (0, 0) 0 [.ref l0, .int l1, .int l2] [] h := by
  refine w_aload_n dX12_item_0 rfl ?_
  refine w_iconst (v := 0) dX12_item_1 rfl ?_
  obtain ⟨e1, w⟩ := w
  refine w_puti dX12_item_2 lk_RX12_1 e1 rfl (Or.inl rfl) ?_
  have w := w _ rfl
  refine w_aload_n dX12_item_5 rfl ?_
  refine w_iload_n dX12_item_6 rfl ?_
  refine w_callV (As := [.int l1]) (st := []) dX12_item_7 mt_X12_isItem g_1687 g_1689 g_99 rfl e1 rfl rfl (Nat.le_of_ble_eq_true rfl) (Nat.le_refl _) ⟨Nat.le_refl _, Nat.le_refl _⟩ w ?_
  rintro v h3 ⟨r2, rfl, w⟩
  refine w_if_eq (tgt := 22) dX12_item_10 rfl (fun c => ?_) (fun c => ?_)
  · rw [if_pos c] at w
    refine w_bipush (v := (-2)) dX12_item_22 rfl ?_
    exact w_ireturn dX12_item_24 rfl rfl ⟨Nat.le_refl _, Nat.le_refl _⟩ w
  · rw [if_neg c] at w
    refine w_iload_n dX12_item_13 rfl ?_
    refine w_iconst (v := 0) dX12_item_14 rfl ?_
    refine w_iconst (v := 4) dX12_item_15 rfl ?_
    refine w_callS (As := [.int l2, .int 0, .int 4]) (st := []) dX12_item_16 mt_X12_within g_1731 g_1732 rfl rfl (Nat.le_of_ble_eq_true rfl) (Nat.le_refl _) ⟨Nat.le_refl _, Nat.le_refl _⟩ w ?_
    rintro v h5 ⟨r4, rfl, w⟩
    refine w_if_ne (tgt := 25) dX12_item_19 rfl (fun c => ?_) (fun c => ?_)
    · rw [if_neg c] at w
      refine w_iload_n dX12_item_25 rfl ?_
      have sw : (l2 : Int32).toInt < 0 ∨ 3 < (l2 : Int32).toInt ∨ (l2 : Int32).toInt = 0 ∨ (l2 : Int32).toInt = 1 ∨ (l2 : Int32).toInt = 2 ∨ (l2 : Int32).toInt = 3 := by omega
      rcases sw with sw | sw | sw | sw | sw | sw
      · refine w_tsw (tgt := 96) dX12_item_26 (by rw [if_pos (by first | exact Or.inl sw | exact Or.inr sw)]; rfl) (by first | exact Or.inl sw | exact Or.inr (Or.inl sw)) ?_
        rw [if_neg (fun q => by rw [q] at sw; revert sw; decide)] at w
        rw [if_neg (fun q => by rw [q] at sw; revert sw; decide)] at w
        rw [if_neg (fun q => by rw [q] at sw; revert sw; decide)] at w
        rw [if_neg (fun q => by rw [q] at sw; revert sw; decide)] at w
        refine w_aload_n dX12_item_96 rfl ?_
        refine w_iconst (v := 0) dX12_item_97 rfl ?_
        refine w_iload_n dX12_item_98 rfl ?_
        obtain ⟨e1, w⟩ := w
        refine w_callV (As := [.int 0, .int l1]) (st := []) dX12_item_99 mt_X12_isRaised g_1766 g_1768 g_113 rfl e1 rfl rfl (Nat.le_of_ble_eq_true rfl) (Nat.le_refl _) ⟨Nat.le_refl _, Nat.le_refl _⟩ w ?_
        rintro v h7 ⟨r6, rfl, w⟩
        refine w_if_eq (tgt := 109) dX12_item_102 rfl (fun c => ?_) (fun c => ?_)
        · rw [if_pos c] at w
          refine w_iconst (v := 0) dX12_item_109 rfl ?_
          exact w_ireturn dX12_item_110 rfl rfl ⟨Nat.le_refl _, Nat.le_refl _⟩ w
        · rw [if_neg c] at w
          refine w_iconst (v := 1) dX12_item_105 rfl ?_
          refine w_goto (tgt := 110) dX12_item_106 rfl ?_
          exact w_ireturn dX12_item_110 rfl rfl ⟨Nat.le_refl _, Nat.le_refl _⟩ w
      · refine w_tsw (tgt := 96) dX12_item_26 (by rw [if_pos (by first | exact Or.inl sw | exact Or.inr sw)]; rfl) (by first | exact Or.inl sw | exact Or.inr (Or.inl sw)) ?_
        rw [if_neg (fun q => by rw [q] at sw; revert sw; decide)] at w
        rw [if_neg (fun q => by rw [q] at sw; revert sw; decide)] at w
        rw [if_neg (fun q => by rw [q] at sw; revert sw; decide)] at w
        rw [if_neg (fun q => by rw [q] at sw; revert sw; decide)] at w
        refine w_aload_n dX12_item_96 rfl ?_
        refine w_iconst (v := 0) dX12_item_97 rfl ?_
        refine w_iload_n dX12_item_98 rfl ?_
        obtain ⟨e1, w⟩ := w
        refine w_callV (As := [.int 0, .int l1]) (st := []) dX12_item_99 mt_X12_isRaised g_1766 g_1768 g_113 rfl e1 rfl rfl (Nat.le_of_ble_eq_true rfl) (Nat.le_refl _) ⟨Nat.le_refl _, Nat.le_refl _⟩ w ?_
        rintro v h7 ⟨r6, rfl, w⟩
        refine w_if_eq (tgt := 109) dX12_item_102 rfl (fun c => ?_) (fun c => ?_)
        · rw [if_pos c] at w
          refine w_iconst (v := 0) dX12_item_109 rfl ?_
          exact w_ireturn dX12_item_110 rfl rfl ⟨Nat.le_refl _, Nat.le_refl _⟩ w
        · rw [if_neg c] at w
          refine w_iconst (v := 1) dX12_item_105 rfl ?_
          refine w_goto (tgt := 110) dX12_item_106 rfl ?_
          exact w_ireturn dX12_item_110 rfl rfl ⟨Nat.le_refl _, Nat.le_refl _⟩ w
      · have sv : (l2 : Int32) = 0 := Int32.toInt_inj.mp (sw.trans (by decide))
        refine w_tsw (tgt := 56) dX12_item_26 (by rw [sw]; rfl) (by rw [sw]; decide) ?_
        rw [if_pos sv] at w
        refine w_aload_n dX12_item_56 rfl ?_
        refine w_iload_n dX12_item_57 rfl ?_
        refine w_iconst (v := 0) dX12_item_58 rfl ?_
        obtain ⟨e1, w⟩ := w
        refine w_callV (As := [.int l1, .int 0]) (st := []) dX12_item_59 mt_X12_itemOf g_1371 g_1373 g_54 rfl e1 rfl rfl (Nat.le_of_ble_eq_true rfl) (Nat.le_refl _) ⟨Nat.le_refl _, Nat.le_refl _⟩ w ?_
        rintro v h9 ⟨r8, rfl, w⟩
        exact w_ireturn dX12_item_62 rfl rfl ⟨Nat.le_refl _, Nat.le_refl _⟩ w
      · have sv : (l2 : Int32) = 1 := Int32.toInt_inj.mp (sw.trans (by decide))
        refine w_tsw (tgt := 63) dX12_item_26 (by rw [sw]; rfl) (by rw [sw]; decide) ?_
        rw [if_neg (fun q => by rw [q] at sw; revert sw; decide)] at w
        rw [if_pos sv] at w
        refine w_aload_n dX12_item_63 rfl ?_
        obtain ⟨e1, w⟩ := w
        refine w_getp dX12_item_64 lk_RX12_97 e1 rfl ?_
        refine w_sipush (v := 240) dX12_item_67 rfl ?_
        refine w_iload_n dX12_item_70 rfl ?_
        refine w_iadd dX12_item_71 ?_
        obtain ⟨n10, ln10, w⟩ := w
        obtain ⟨e3, w⟩ := w
        refine w_iald dX12_item_72 ln10 e3 ?_
        exact w_ireturn dX12_item_73 rfl rfl ⟨Nat.le_refl _, Nat.le_refl _⟩ w
      · have sv : (l2 : Int32) = 2 := Int32.toInt_inj.mp (sw.trans (by decide))
        refine w_tsw (tgt := 74) dX12_item_26 (by rw [sw]; rfl) (by rw [sw]; decide) ?_
        rw [if_neg (fun q => by rw [q] at sw; revert sw; decide)] at w
        rw [if_neg (fun q => by rw [q] at sw; revert sw; decide)] at w
        rw [if_pos sv] at w
        refine w_aload_n dX12_item_74 rfl ?_
        obtain ⟨e1, w⟩ := w
        refine w_getp dX12_item_75 lk_RX12_97 e1 rfl ?_
        refine w_sipush (v := 260) dX12_item_78 rfl ?_
        refine w_iload_n dX12_item_81 rfl ?_
        refine w_iadd dX12_item_82 ?_
        obtain ⟨n11, ln11, w⟩ := w
        obtain ⟨e3, w⟩ := w
        refine w_iald dX12_item_83 ln11 e3 ?_
        exact w_ireturn dX12_item_84 rfl rfl ⟨Nat.le_refl _, Nat.le_refl _⟩ w
      · have sv : (l2 : Int32) = 3 := Int32.toInt_inj.mp (sw.trans (by decide))
        refine w_tsw (tgt := 85) dX12_item_26 (by rw [sw]; rfl) (by rw [sw]; decide) ?_
        rw [if_neg (fun q => by rw [q] at sw; revert sw; decide)] at w
        rw [if_neg (fun q => by rw [q] at sw; revert sw; decide)] at w
        rw [if_neg (fun q => by rw [q] at sw; revert sw; decide)] at w
        rw [if_pos sv] at w
        refine w_aload_n dX12_item_85 rfl ?_
        obtain ⟨e1, w⟩ := w
        refine w_getp dX12_item_86 lk_RX12_97 e1 rfl ?_
        refine w_sipush (v := 280) dX12_item_89 rfl ?_
        refine w_iload_n dX12_item_92 rfl ?_
        refine w_iadd dX12_item_93 ?_
        obtain ⟨n12, ln12, w⟩ := w
        obtain ⟨e3, w⟩ := w
        refine w_iald dX12_item_94 ln12 e3 ?_
        exact w_ireturn dX12_item_95 rfl rfl ⟨Nat.le_refl _, Nat.le_refl _⟩ w
    · rw [if_pos c] at w
      refine w_bipush (v := (-2)) dX12_item_22 rfl ?_
      exact w_ireturn dX12_item_24 rfl rfl ⟨Nat.le_refl _, Nat.le_refl _⟩ w
set_option maxRecDepth 20000 in
set_option maxHeartbeats 4000000 in
theorem x_X12_treesIn {G : pm_G} {d : Nat} {post : pm_PT} {h : pm_H} {l0 : Nat} {l1 : Int32} (w :
    Wp G (m_X12_treesIn, d + 1, 0, 0, post) (0, 0) 4 [.ref l0, .int l1, .int 0, .int 0] [] h) :
    Wp G (m_X12_treesIn, d + 1, 0, 0, post) (0, 0) 0 [.ref l0, .int l1, .null, .null] [] h := by
  refine w_iconst (v := 0) dX12_treesIn_0 rfl ?_
  refine v_istore_n (l' := [.ref l0, .int l1, .int 0, .null]) dX12_treesIn_1 (Nat.le_of_ble_eq_true rfl) rfl ?_
  refine w_iconst (v := 0) dX12_treesIn_2 rfl ?_
  refine v_istore_n (l' := [.ref l0, .int l1, .int 0, .int 0]) dX12_treesIn_3 (Nat.le_of_ble_eq_true rfl) rfl ?_
  exact w
set_option maxRecDepth 20000 in
set_option maxHeartbeats 4000000 in
theorem x_X12_treesIn_4 {G : pm_G} {d : Nat} {post : pm_PT} {h : pm_H} {l0 : Nat} {l1 : Int32} {l2 : Int32} {l3 : Int32} (w :
    if 16 ≤ l3 then (
      post (some (.int l2)) h
    ) else (
      (h.1[l0]? = some (0, 11)) ∧
      ci G d m_X12_rootAt [.ref l0, .int 0, .int l1, .int l3] h fun r1 h2 =>
      if r1 < 0 then (
        Wp G (m_X12_treesIn, d + 1, 0, 0, post) (0, 0) 4 [.ref l0, .int l1, .int (l2 + 0), .int (l3 + 1)] [] h2
      ) else (
        Wp G (m_X12_treesIn, d + 1, 0, 0, post) (0, 0) 4 [.ref l0, .int l1, .int (l2 + 1), .int (l3 + 1)] [] h2
      )
    )) :
    Wp G (m_X12_treesIn, d + 1, 0, 0, post) (0, 0) 4 [.ref l0, .int l1, .int l2, .int l3] [] h := by
  refine w_iload_n dX12_treesIn_4 rfl ?_
  refine w_bipush (v := 16) dX12_treesIn_5 rfl ?_
  refine w_ic_ge (tgt := 34) dX12_treesIn_7 rfl (fun c => ?_) (fun c => ?_)
  · rw [if_pos c] at w
    refine w_iload_n dX12_treesIn_34 rfl ?_
    exact w_ireturn dX12_treesIn_35 rfl rfl ⟨Nat.le_refl _, Nat.le_refl _⟩ w
  · rw [if_neg c] at w
    refine w_iload_n dX12_treesIn_10 rfl ?_
    refine w_aload_n dX12_treesIn_11 rfl ?_
    refine w_iconst (v := 0) dX12_treesIn_12 rfl ?_
    refine w_iload_n dX12_treesIn_13 rfl ?_
    refine w_iload_n dX12_treesIn_14 rfl ?_
    obtain ⟨e1, w⟩ := w
    refine w_callV (As := [.int 0, .int l1, .int l3]) (st := [.int l2]) dX12_treesIn_15 mt_X12_rootAt g_1444 g_1446 g_65 rfl e1 rfl rfl (Nat.le_of_ble_eq_true rfl) (Nat.le_refl _) ⟨Nat.le_refl _, Nat.le_refl _⟩ w ?_
    rintro v h2 ⟨r1, rfl, w⟩
    refine w_if_lt (tgt := 25) dX12_treesIn_18 rfl (fun c => ?_) (fun c => ?_)
    · rw [if_pos c] at w
      refine w_iconst (v := 0) dX12_treesIn_25 rfl ?_
      refine w_iadd dX12_treesIn_26 ?_
      refine v_istore_n (l' := [.ref l0, .int l1, .int (l2 + 0), .int l3]) dX12_treesIn_27 (Nat.le_of_ble_eq_true rfl) rfl ?_
      refine v_iinc (l' := [.ref l0, .int l1, .int (l2 + 0), .int (l3 + 1)]) (v := l3 + 1) dX12_treesIn_28 rfl rfl (Nat.le_of_ble_eq_true rfl) rfl ?_
      refine w_goto (tgt := 4) dX12_treesIn_31 rfl ?_
      exact w
    · rw [if_neg c] at w
      refine w_iconst (v := 1) dX12_treesIn_21 rfl ?_
      refine w_goto (tgt := 26) dX12_treesIn_22 rfl ?_
      refine w_iadd dX12_treesIn_26 ?_
      refine v_istore_n (l' := [.ref l0, .int l1, .int (l2 + 1), .int l3]) dX12_treesIn_27 (Nat.le_of_ble_eq_true rfl) rfl ?_
      refine v_iinc (l' := [.ref l0, .int l1, .int (l2 + 1), .int (l3 + 1)]) (v := l3 + 1) dX12_treesIn_28 rfl rfl (Nat.le_of_ble_eq_true rfl) rfl ?_
      refine w_goto (tgt := 4) dX12_treesIn_31 rfl ?_
      exact w
set_option maxRecDepth 20000 in
set_option maxHeartbeats 4000000 in
theorem x_X12_treeAt {G : pm_G} {d : Nat} {post : pm_PT} {h : pm_H} {l0 : Nat} {l1 : Int32} {l2 : Int32} (w :
    Wp G (m_X12_treeAt, d + 1, 0, 0, post) (0, 0) 5 [.ref l0, .int l1, .int l2, .int 0, .int 0] [] h) :
    Wp G (m_X12_treeAt, d + 1, 0, 0, post) (0, 0) 0 [.ref l0, .int l1, .int l2, .null, .null] [] h := by
  refine w_iconst (v := 0) dX12_treeAt_0 rfl ?_
  refine v_istore_n (l' := [.ref l0, .int l1, .int l2, .int 0, .null]) dX12_treeAt_1 (Nat.le_of_ble_eq_true rfl) rfl ?_
  refine w_iconst (v := 0) dX12_treeAt_2 rfl ?_
  refine v_istore (l' := [.ref l0, .int l1, .int l2, .int 0, .int 0]) dX12_treeAt_3 (Nat.le_of_ble_eq_true rfl) rfl ?_
  exact w
set_option maxRecDepth 20000 in
set_option maxHeartbeats 4000000 in
theorem x_X12_treeAt_5 {G : pm_G} {d : Nat} {post : pm_PT} {h : pm_H} {l0 : Nat} {l1 : Int32} {l2 : Int32} {l3 : Int32} {l4 : Int32} (w :
    if 16 ≤ l4 then (
      post (some (.int (-1))) h
    ) else (
      (h.1[l0]? = some (0, 11)) ∧
      ci G d m_X12_isHeap [.ref l0, .int l1] h fun r1 h2 =>
      if r1 = 0 then (
        post (some (.int (-1))) h2
      ) else (
        (h2.1[l0]? = some (0, 11)) ∧
        ci G d m_X12_rootAt [.ref l0, .int 0, .int l1, .int l4] h2 fun r3 h4 =>
        if r3 < 0 then (
          Wp G (m_X12_treeAt, d + 1, 0, 0, post) (0, 0) 5 [.ref l0, .int l1, .int l2, .int l3, .int (l4 + 1)] [] h4
        ) else (
          if l3 = l2 then (
            (h4.1[l0]? = some (0, 11)) ∧
            ci G d m_X12_rootAt [.ref l0, .int 0, .int l1, .int l4] h4 fun r5 h6 =>
            post (some (.int r5)) h6
          ) else (
            Wp G (m_X12_treeAt, d + 1, 0, 0, post) (0, 0) 5 [.ref l0, .int l1, .int l2, .int (l3 + 1), .int (l4 + 1)] [] h4
          )
        )
      )
    )) :
    Wp G (m_X12_treeAt, d + 1, 0, 0, post) (0, 0) 5 [.ref l0, .int l1, .int l2, .int l3, .int l4] [] h := by
  refine w_iload dX12_treeAt_5 rfl ?_
  refine w_bipush (v := 16) dX12_treeAt_7 rfl ?_
  refine w_ic_ge (tgt := 54) dX12_treeAt_9 rfl (fun c => ?_) (fun c => ?_)
  · rw [if_pos c] at w
    refine w_iconst (v := (-1)) dX12_treeAt_54 rfl ?_
    exact w_ireturn dX12_treeAt_55 rfl rfl ⟨Nat.le_refl _, Nat.le_refl _⟩ w
  · rw [if_neg c] at w
    refine w_aload_n dX12_treeAt_12 rfl ?_
    refine w_iload_n dX12_treeAt_13 rfl ?_
    obtain ⟨e1, w⟩ := w
    refine w_callV (As := [.int l1]) (st := []) dX12_treeAt_14 mt_X12_isHeap g_1691 g_1693 g_100 rfl e1 rfl rfl (Nat.le_of_ble_eq_true rfl) (Nat.le_refl _) ⟨Nat.le_refl _, Nat.le_refl _⟩ w ?_
    rintro v h2 ⟨r1, rfl, w⟩
    refine w_if_eq (tgt := 54) dX12_treeAt_17 rfl (fun c => ?_) (fun c => ?_)
    · rw [if_pos c] at w
      refine w_iconst (v := (-1)) dX12_treeAt_54 rfl ?_
      exact w_ireturn dX12_treeAt_55 rfl rfl ⟨Nat.le_refl _, Nat.le_refl _⟩ w
    · rw [if_neg c] at w
      refine w_aload_n dX12_treeAt_20 rfl ?_
      refine w_iconst (v := 0) dX12_treeAt_21 rfl ?_
      refine w_iload_n dX12_treeAt_22 rfl ?_
      refine w_iload dX12_treeAt_23 rfl ?_
      obtain ⟨e1, w⟩ := w
      refine w_callV (As := [.int 0, .int l1, .int l4]) (st := []) dX12_treeAt_25 mt_X12_rootAt g_1444 g_1446 g_65 rfl e1 rfl rfl (Nat.le_of_ble_eq_true rfl) (Nat.le_refl _) ⟨Nat.le_refl _, Nat.le_refl _⟩ w ?_
      rintro v h4 ⟨r3, rfl, w⟩
      refine w_if_lt (tgt := 48) dX12_treeAt_28 rfl (fun c => ?_) (fun c => ?_)
      · rw [if_pos c] at w
        refine v_iinc (l' := [.ref l0, .int l1, .int l2, .int l3, .int (l4 + 1)]) (v := l4 + 1) dX12_treeAt_48 rfl rfl (Nat.le_of_ble_eq_true rfl) rfl ?_
        refine w_goto (tgt := 5) dX12_treeAt_51 rfl ?_
        exact w
      · rw [if_neg c] at w
        refine w_iload_n dX12_treeAt_31 rfl ?_
        refine w_iload_n dX12_treeAt_32 rfl ?_
        refine w_ic_ne (tgt := 45) dX12_treeAt_33 rfl (fun c => ?_) (fun c => ?_)
        · rw [if_neg c] at w
          refine v_iinc (l' := [.ref l0, .int l1, .int l2, .int (l3 + 1), .int l4]) (v := l3 + 1) dX12_treeAt_45 rfl rfl (Nat.le_of_ble_eq_true rfl) rfl ?_
          refine v_iinc (l' := [.ref l0, .int l1, .int l2, .int (l3 + 1), .int (l4 + 1)]) (v := l4 + 1) dX12_treeAt_48 rfl rfl (Nat.le_of_ble_eq_true rfl) rfl ?_
          refine w_goto (tgt := 5) dX12_treeAt_51 rfl ?_
          exact w
        · rw [if_pos c] at w
          refine w_aload_n dX12_treeAt_36 rfl ?_
          refine w_iconst (v := 0) dX12_treeAt_37 rfl ?_
          refine w_iload_n dX12_treeAt_38 rfl ?_
          refine w_iload dX12_treeAt_39 rfl ?_
          obtain ⟨e1, w⟩ := w
          refine w_callV (As := [.int 0, .int l1, .int l4]) (st := []) dX12_treeAt_41 mt_X12_rootAt g_1444 g_1446 g_65 rfl e1 rfl rfl (Nat.le_of_ble_eq_true rfl) (Nat.le_refl _) ⟨Nat.le_refl _, Nat.le_refl _⟩ w ?_
          rintro v h6 ⟨r5, rfl, w⟩
          exact w_ireturn dX12_treeAt_44 rfl rfl ⟨Nat.le_refl _, Nat.le_refl _⟩ w
set_option maxRecDepth 20000 in
set_option maxHeartbeats 4000000 in
theorem x_X12_heap {G : pm_G} {d : Nat} {post : pm_PT} {h : pm_H} {l0 : Nat} {l1 : Int32} {l2 : Int32} (w :
    (h.1[l0]? = some (0, 11)) ∧
    ∀ h1 : pm_H, h1 = si h l0 0 0 →
    ci G d m_X12_isHeap [.ref l0, .int l1] h1 fun r2 h3 =>
    if r2 = 0 then (
      post (some (.int (-2))) h3
    ) else (
      ci G d m_X12_within [.int l2, .int 0, .int 3] h3 fun r4 h5 =>
      if r4 = 0 then (
        post (some (.int (-2))) h5
      ) else (
        if 3 ≤ l2 then (
          (h5.1[l0]? = some (0, 11)) ∧
          ci G d m_X12_treesIn [.ref l0, .int l1] h5 fun r6 h7 =>
          (h7.1[l0]? = some (0, 11)) ∧
          ci G d m_X12_treeAt [.ref l0, .int l1, .int (r6 - 1)] h7 fun r8 h9 =>
          if 0 ≤ r8 then (
            (h9.1[l0]? = some (0, 11)) ∧
            ci G d m_X12_nodeOf [.ref l0, .int 0, .int r8, .int 0] h9 fun r10 h11 =>
            post (some (.int r10)) h11
          ) else (
            post (some (.int (-1))) h9
          )
        ) else (
          if l2 = 0 then (
            (h5.1[l0]? = some (0, 11)) ∧
            ci G d m_X12_itemsIn [.ref l0, .int 0, .int l1] h5 fun r12 h13 =>
            post (some (.int r12)) h13
          ) else (
            if l2 = 1 then (
              (h5.1[l0]? = some (0, 11)) ∧
              ci G d m_X12_treesIn [.ref l0, .int l1] h5 fun r14 h15 =>
              post (some (.int r14)) h15
            ) else (
              (h5.1[l0]? = some (0, 11)) ∧
              ci G d m_X12_raisedIn [.ref l0, .int 0, .int l1] h5 fun r16 h17 =>
              post (some (.int r16)) h17
            )
          )
        )
      )
    )) :
    Wp G (m_X12_heap, d + 1, 0, 0, post) (0, 0) 0 [.ref l0, .int l1, .int l2, .null] [] h := by
  refine w_aload_n dX12_heap_0 rfl ?_
  refine w_iconst (v := 0) dX12_heap_1 rfl ?_
  obtain ⟨e1, w⟩ := w
  refine w_puti dX12_heap_2 lk_RX12_1 e1 rfl (Or.inl rfl) ?_
  have w := w _ rfl
  refine w_aload_n dX12_heap_5 rfl ?_
  refine w_iload_n dX12_heap_6 rfl ?_
  refine w_callV (As := [.int l1]) (st := []) dX12_heap_7 mt_X12_isHeap g_1691 g_1693 g_100 rfl e1 rfl rfl (Nat.le_of_ble_eq_true rfl) (Nat.le_refl _) ⟨Nat.le_refl _, Nat.le_refl _⟩ w ?_
  rintro v h3 ⟨r2, rfl, w⟩
  refine w_if_eq (tgt := 22) dX12_heap_10 rfl (fun c => ?_) (fun c => ?_)
  · rw [if_pos c] at w
    refine w_bipush (v := (-2)) dX12_heap_22 rfl ?_
    exact w_ireturn dX12_heap_24 rfl rfl ⟨Nat.le_refl _, Nat.le_refl _⟩ w
  · rw [if_neg c] at w
    refine w_iload_n dX12_heap_13 rfl ?_
    refine w_iconst (v := 0) dX12_heap_14 rfl ?_
    refine w_iconst (v := 3) dX12_heap_15 rfl ?_
    refine w_callS (As := [.int l2, .int 0, .int 3]) (st := []) dX12_heap_16 mt_X12_within g_1731 g_1732 rfl rfl (Nat.le_of_ble_eq_true rfl) (Nat.le_refl _) ⟨Nat.le_refl _, Nat.le_refl _⟩ w ?_
    rintro v h5 ⟨r4, rfl, w⟩
    refine w_if_ne (tgt := 25) dX12_heap_19 rfl (fun c => ?_) (fun c => ?_)
    · rw [if_neg c] at w
      refine w_iload_n dX12_heap_25 rfl ?_
      refine w_iconst (v := 3) dX12_heap_26 rfl ?_
      refine w_ic_ge (tgt := 63) dX12_heap_27 rfl (fun c => ?_) (fun c => ?_)
      · rw [if_pos c] at w
        refine w_aload_n dX12_heap_63 rfl ?_
        refine w_iload_n dX12_heap_64 rfl ?_
        refine w_aload_n dX12_heap_65 rfl ?_
        refine w_iload_n dX12_heap_66 rfl ?_
        obtain ⟨e1, w⟩ := w
        refine w_callV (As := [.int l1]) (st := [.int l1, .ref l0]) dX12_heap_67 mt_X12_treesIn g_1786 g_1788 g_116 rfl e1 rfl rfl (Nat.le_of_ble_eq_true rfl) (Nat.le_refl _) ⟨Nat.le_refl _, Nat.le_refl _⟩ w ?_
        rintro v h7 ⟨r6, rfl, w⟩
        refine w_iconst (v := 1) dX12_heap_70 rfl ?_
        refine w_isub dX12_heap_71 ?_
        obtain ⟨e1, w⟩ := w
        refine w_callV (As := [.int l1, .int (r6 - 1)]) (st := []) dX12_heap_72 mt_X12_treeAt g_1790 g_1792 g_117 rfl e1 rfl rfl (Nat.le_of_ble_eq_true rfl) (Nat.le_refl _) ⟨Nat.le_refl _, Nat.le_refl _⟩ w ?_
        rintro v h9 ⟨r8, rfl, w⟩
        refine v_istore_n (l' := [.ref l0, .int l1, .int l2, .int r8]) dX12_heap_75 (Nat.le_of_ble_eq_true rfl) rfl ?_
        refine w_iload_n dX12_heap_76 rfl ?_
        refine w_if_ge (tgt := 84) dX12_heap_77 rfl (fun c => ?_) (fun c => ?_)
        · rw [if_pos c] at w
          refine w_aload_n dX12_heap_84 rfl ?_
          refine w_iconst (v := 0) dX12_heap_85 rfl ?_
          refine w_iload_n dX12_heap_86 rfl ?_
          refine w_iconst (v := 0) dX12_heap_87 rfl ?_
          obtain ⟨e1, w⟩ := w
          refine w_callV (As := [.int 0, .int r8, .int 0]) (st := []) dX12_heap_88 mt_X12_nodeOf g_1420 g_1422 g_59 rfl e1 rfl rfl (Nat.le_of_ble_eq_true rfl) (Nat.le_refl _) ⟨Nat.le_refl _, Nat.le_refl _⟩ w ?_
          rintro v h11 ⟨r10, rfl, w⟩
          exact w_ireturn dX12_heap_91 rfl rfl ⟨Nat.le_refl _, Nat.le_refl _⟩ w
        · rw [if_neg c] at w
          refine w_iconst (v := (-1)) dX12_heap_80 rfl ?_
          refine w_goto (tgt := 91) dX12_heap_81 rfl ?_
          exact w_ireturn dX12_heap_91 rfl rfl ⟨Nat.le_refl _, Nat.le_refl _⟩ w
      · rw [if_neg c] at w
        refine w_iload_n dX12_heap_30 rfl ?_
        refine w_if_ne (tgt := 43) dX12_heap_31 rfl (fun c => ?_) (fun c => ?_)
        · rw [if_neg c] at w
          refine w_iload_n dX12_heap_43 rfl ?_
          refine w_iconst (v := 1) dX12_heap_44 rfl ?_
          refine w_ic_ne (tgt := 56) dX12_heap_45 rfl (fun c => ?_) (fun c => ?_)
          · rw [if_neg c] at w
            refine w_aload_n dX12_heap_56 rfl ?_
            refine w_iconst (v := 0) dX12_heap_57 rfl ?_
            refine w_iload_n dX12_heap_58 rfl ?_
            obtain ⟨e1, w⟩ := w
            refine w_callV (As := [.int 0, .int l1]) (st := []) dX12_heap_59 mt_X12_raisedIn g_1762 g_1764 g_112 rfl e1 rfl rfl (Nat.le_of_ble_eq_true rfl) (Nat.le_refl _) ⟨Nat.le_refl _, Nat.le_refl _⟩ w ?_
            rintro v h17 ⟨r16, rfl, w⟩
            exact w_ireturn dX12_heap_62 rfl rfl ⟨Nat.le_refl _, Nat.le_refl _⟩ w
          · rw [if_pos c] at w
            refine w_aload_n dX12_heap_48 rfl ?_
            refine w_iload_n dX12_heap_49 rfl ?_
            obtain ⟨e1, w⟩ := w
            refine w_callV (As := [.int l1]) (st := []) dX12_heap_50 mt_X12_treesIn g_1786 g_1788 g_116 rfl e1 rfl rfl (Nat.le_of_ble_eq_true rfl) (Nat.le_refl _) ⟨Nat.le_refl _, Nat.le_refl _⟩ w ?_
            rintro v h15 ⟨r14, rfl, w⟩
            refine w_goto (tgt := 62) dX12_heap_53 rfl ?_
            exact w_ireturn dX12_heap_62 rfl rfl ⟨Nat.le_refl _, Nat.le_refl _⟩ w
        · rw [if_pos c] at w
          refine w_aload_n dX12_heap_34 rfl ?_
          refine w_iconst (v := 0) dX12_heap_35 rfl ?_
          refine w_iload_n dX12_heap_36 rfl ?_
          obtain ⟨e1, w⟩ := w
          refine w_callV (As := [.int 0, .int l1]) (st := []) dX12_heap_37 mt_X12_itemsIn g_1440 g_1442 g_64 rfl e1 rfl rfl (Nat.le_of_ble_eq_true rfl) (Nat.le_refl _) ⟨Nat.le_refl _, Nat.le_refl _⟩ w ?_
          rintro v h13 ⟨r12, rfl, w⟩
          refine w_goto (tgt := 62) dX12_heap_40 rfl ?_
          exact w_ireturn dX12_heap_62 rfl rfl ⟨Nat.le_refl _, Nat.le_refl _⟩ w
    · rw [if_pos c] at w
      refine w_bipush (v := (-2)) dX12_heap_22 rfl ?_
      exact w_ireturn dX12_heap_24 rfl rfl ⟨Nat.le_refl _, Nat.le_refl _⟩ w
set_option maxRecDepth 20000 in
set_option maxHeartbeats 4000000 in
theorem x_X12_tree {G : pm_G} {d : Nat} {post : pm_PT} {h : pm_H} {l0 : Nat} {l1 : Int32} {l2 : Int32} {l3 : Int32} (w :
    (h.1[l0]? = some (0, 11)) ∧
    ∀ h1 : pm_H, h1 = si h l0 0 0 →
    ci G d m_X12_treeAt [.ref l0, .int l1, .int l2] h1 fun r2 h3 =>
    if 0 ≤ r2 then (
      if l3 = 0 then (
        (h3.1[l0]? = some (0, 11)) ∧
        ci G d m_X12_nodeOf [.ref l0, .int 0, .int r2, .int 0] h3 fun r4 h5 =>
        post (some (.int r4)) h5
      ) else (
      if l3 = 1 then (
        (h3.1[l0]? = some (0, 11)) ∧
        ci G d m_X12_nodeOf [.ref l0, .int 0, .int r2, .int 1] h3 fun r6 h7 =>
        post (some (.int r6)) h7
      ) else (
      if l3 = 2 then (
        (h3.1[l0]? = some (0, 11)) ∧
        ci G d m_X12_nodeOf [.ref l0, .int 0, .int r2, .int 3] h3 fun r8 h9 =>
        post (some (.int r8)) h9
      ) else (
      if l3 = 3 then (
        (h3.1[l0]? = some (0, 11)) ∧
        ci G d m_X12_nodeOf [.ref l0, .int 0, .int r2, .int 2] h3 fun r10 h11 =>
        post (some (.int r10)) h11
      ) else (
      if l3 = 4 then (
        (h3.1[l0]? = some (0, 11)) ∧
        ci G d m_X12_nodesUnder [.ref l0, .int 0, .int r2] h3 fun r12 h13 =>
        post (some (.int r12)) h13
      ) else (
      post (some (.int (-1))) h3
      )))))
    ) else (
      post (some (.int (-1))) h3
    )) :
    Wp G (m_X12_tree, d + 1, 0, 0, post) (0, 0) 0 [.ref l0, .int l1, .int l2, .int l3, .null] [] h := by
  refine w_aload_n dX12_tree_0 rfl ?_
  refine w_iconst (v := 0) dX12_tree_1 rfl ?_
  obtain ⟨e1, w⟩ := w
  refine w_puti dX12_tree_2 lk_RX12_1 e1 rfl (Or.inl rfl) ?_
  have w := w _ rfl
  refine w_aload_n dX12_tree_5 rfl ?_
  refine w_iload_n dX12_tree_6 rfl ?_
  refine w_iload_n dX12_tree_7 rfl ?_
  refine w_callV (As := [.int l1, .int l2]) (st := []) dX12_tree_8 mt_X12_treeAt g_1790 g_1792 g_117 rfl e1 rfl rfl (Nat.le_of_ble_eq_true rfl) (Nat.le_refl _) ⟨Nat.le_refl _, Nat.le_refl _⟩ w ?_
  rintro v h3 ⟨r2, rfl, w⟩
  refine v_istore (l' := [.ref l0, .int l1, .int l2, .int l3, .int r2]) dX12_tree_11 (Nat.le_of_ble_eq_true rfl) rfl ?_
  refine w_iload dX12_tree_13 rfl ?_
  refine w_if_ge (tgt := 20) dX12_tree_15 rfl (fun c => ?_) (fun c => ?_)
  · rw [if_pos c] at w
    refine w_iload_n dX12_tree_20 rfl ?_
    have sw : (l3 : Int32).toInt < 0 ∨ 4 < (l3 : Int32).toInt ∨ (l3 : Int32).toInt = 0 ∨ (l3 : Int32).toInt = 1 ∨ (l3 : Int32).toInt = 2 ∨ (l3 : Int32).toInt = 3 ∨ (l3 : Int32).toInt = 4 := by omega
    rcases sw with sw | sw | sw | sw | sw | sw | sw
    · refine w_tsw (tgt := 100) dX12_tree_21 (by rw [if_pos (by first | exact Or.inl sw | exact Or.inr sw)]; rfl) (by first | exact Or.inl sw | exact Or.inr (Or.inl sw)) ?_
      rw [if_neg (fun q => by rw [q] at sw; revert sw; decide)] at w
      rw [if_neg (fun q => by rw [q] at sw; revert sw; decide)] at w
      rw [if_neg (fun q => by rw [q] at sw; revert sw; decide)] at w
      rw [if_neg (fun q => by rw [q] at sw; revert sw; decide)] at w
      rw [if_neg (fun q => by rw [q] at sw; revert sw; decide)] at w
      refine w_iconst (v := (-1)) dX12_tree_100 rfl ?_
      exact w_ireturn dX12_tree_101 rfl rfl ⟨Nat.le_refl _, Nat.le_refl _⟩ w
    · refine w_tsw (tgt := 100) dX12_tree_21 (by rw [if_pos (by first | exact Or.inl sw | exact Or.inr sw)]; rfl) (by first | exact Or.inl sw | exact Or.inr (Or.inl sw)) ?_
      rw [if_neg (fun q => by rw [q] at sw; revert sw; decide)] at w
      rw [if_neg (fun q => by rw [q] at sw; revert sw; decide)] at w
      rw [if_neg (fun q => by rw [q] at sw; revert sw; decide)] at w
      rw [if_neg (fun q => by rw [q] at sw; revert sw; decide)] at w
      rw [if_neg (fun q => by rw [q] at sw; revert sw; decide)] at w
      refine w_iconst (v := (-1)) dX12_tree_100 rfl ?_
      exact w_ireturn dX12_tree_101 rfl rfl ⟨Nat.le_refl _, Nat.le_refl _⟩ w
    · have sv : (l3 : Int32) = 0 := Int32.toInt_inj.mp (sw.trans (by decide))
      refine w_tsw (tgt := 56) dX12_tree_21 (by rw [sw]; rfl) (by rw [sw]; decide) ?_
      rw [if_pos sv] at w
      refine w_aload_n dX12_tree_56 rfl ?_
      refine w_iconst (v := 0) dX12_tree_57 rfl ?_
      refine w_iload dX12_tree_58 rfl ?_
      refine w_iconst (v := 0) dX12_tree_60 rfl ?_
      obtain ⟨e1, w⟩ := w
      refine w_callV (As := [.int 0, .int r2, .int 0]) (st := []) dX12_tree_61 mt_X12_nodeOf g_1420 g_1422 g_59 rfl e1 rfl rfl (Nat.le_of_ble_eq_true rfl) (Nat.le_refl _) ⟨Nat.le_refl _, Nat.le_refl _⟩ w ?_
      rintro v h5 ⟨r4, rfl, w⟩
      exact w_ireturn dX12_tree_64 rfl rfl ⟨Nat.le_refl _, Nat.le_refl _⟩ w
    · have sv : (l3 : Int32) = 1 := Int32.toInt_inj.mp (sw.trans (by decide))
      refine w_tsw (tgt := 65) dX12_tree_21 (by rw [sw]; rfl) (by rw [sw]; decide) ?_
      rw [if_neg (fun q => by rw [q] at sw; revert sw; decide)] at w
      rw [if_pos sv] at w
      refine w_aload_n dX12_tree_65 rfl ?_
      refine w_iconst (v := 0) dX12_tree_66 rfl ?_
      refine w_iload dX12_tree_67 rfl ?_
      refine w_iconst (v := 1) dX12_tree_69 rfl ?_
      obtain ⟨e1, w⟩ := w
      refine w_callV (As := [.int 0, .int r2, .int 1]) (st := []) dX12_tree_70 mt_X12_nodeOf g_1420 g_1422 g_59 rfl e1 rfl rfl (Nat.le_of_ble_eq_true rfl) (Nat.le_refl _) ⟨Nat.le_refl _, Nat.le_refl _⟩ w ?_
      rintro v h7 ⟨r6, rfl, w⟩
      exact w_ireturn dX12_tree_73 rfl rfl ⟨Nat.le_refl _, Nat.le_refl _⟩ w
    · have sv : (l3 : Int32) = 2 := Int32.toInt_inj.mp (sw.trans (by decide))
      refine w_tsw (tgt := 74) dX12_tree_21 (by rw [sw]; rfl) (by rw [sw]; decide) ?_
      rw [if_neg (fun q => by rw [q] at sw; revert sw; decide)] at w
      rw [if_neg (fun q => by rw [q] at sw; revert sw; decide)] at w
      rw [if_pos sv] at w
      refine w_aload_n dX12_tree_74 rfl ?_
      refine w_iconst (v := 0) dX12_tree_75 rfl ?_
      refine w_iload dX12_tree_76 rfl ?_
      refine w_iconst (v := 3) dX12_tree_78 rfl ?_
      obtain ⟨e1, w⟩ := w
      refine w_callV (As := [.int 0, .int r2, .int 3]) (st := []) dX12_tree_79 mt_X12_nodeOf g_1420 g_1422 g_59 rfl e1 rfl rfl (Nat.le_of_ble_eq_true rfl) (Nat.le_refl _) ⟨Nat.le_refl _, Nat.le_refl _⟩ w ?_
      rintro v h9 ⟨r8, rfl, w⟩
      exact w_ireturn dX12_tree_82 rfl rfl ⟨Nat.le_refl _, Nat.le_refl _⟩ w
    · have sv : (l3 : Int32) = 3 := Int32.toInt_inj.mp (sw.trans (by decide))
      refine w_tsw (tgt := 83) dX12_tree_21 (by rw [sw]; rfl) (by rw [sw]; decide) ?_
      rw [if_neg (fun q => by rw [q] at sw; revert sw; decide)] at w
      rw [if_neg (fun q => by rw [q] at sw; revert sw; decide)] at w
      rw [if_neg (fun q => by rw [q] at sw; revert sw; decide)] at w
      rw [if_pos sv] at w
      refine w_aload_n dX12_tree_83 rfl ?_
      refine w_iconst (v := 0) dX12_tree_84 rfl ?_
      refine w_iload dX12_tree_85 rfl ?_
      refine w_iconst (v := 2) dX12_tree_87 rfl ?_
      obtain ⟨e1, w⟩ := w
      refine w_callV (As := [.int 0, .int r2, .int 2]) (st := []) dX12_tree_88 mt_X12_nodeOf g_1420 g_1422 g_59 rfl e1 rfl rfl (Nat.le_of_ble_eq_true rfl) (Nat.le_refl _) ⟨Nat.le_refl _, Nat.le_refl _⟩ w ?_
      rintro v h11 ⟨r10, rfl, w⟩
      exact w_ireturn dX12_tree_91 rfl rfl ⟨Nat.le_refl _, Nat.le_refl _⟩ w
    · have sv : (l3 : Int32) = 4 := Int32.toInt_inj.mp (sw.trans (by decide))
      refine w_tsw (tgt := 92) dX12_tree_21 (by rw [sw]; rfl) (by rw [sw]; decide) ?_
      rw [if_neg (fun q => by rw [q] at sw; revert sw; decide)] at w
      rw [if_neg (fun q => by rw [q] at sw; revert sw; decide)] at w
      rw [if_neg (fun q => by rw [q] at sw; revert sw; decide)] at w
      rw [if_neg (fun q => by rw [q] at sw; revert sw; decide)] at w
      rw [if_pos sv] at w
      refine w_aload_n dX12_tree_92 rfl ?_
      refine w_iconst (v := 0) dX12_tree_93 rfl ?_
      refine w_iload dX12_tree_94 rfl ?_
      obtain ⟨e1, w⟩ := w
      refine w_callV (As := [.int 0, .int r2]) (st := []) dX12_tree_96 mt_X12_nodesUnder g_1798 g_1800 g_118 rfl e1 rfl rfl (Nat.le_of_ble_eq_true rfl) (Nat.le_refl _) ⟨Nat.le_refl _, Nat.le_refl _⟩ w ?_
      rintro v h13 ⟨r12, rfl, w⟩
      exact w_ireturn dX12_tree_99 rfl rfl ⟨Nat.le_refl _, Nat.le_refl _⟩ w
  · rw [if_neg c] at w
    refine w_iconst (v := (-1)) dX12_tree_18 rfl ?_
    exact w_ireturn dX12_tree_19 rfl rfl ⟨Nat.le_refl _, Nat.le_refl _⟩ w
set_option maxRecDepth 20000 in
set_option maxHeartbeats 4000000 in
theorem x_X12_listed {G : pm_G} {d : Nat} {post : pm_PT} {h : pm_H} {l0 : Nat} {l1 : Int32} {l2 : Int32} {l3 : Int32} (w :
    (h.1[l0]? = some (0, 11)) ∧
    ∀ h1 : pm_H, h1 = si h l0 0 0 →
    ci G d m_X12_treeAt [.ref l0, .int l1, .int l2] h1 fun r2 h3 =>
    if r2 < 0 then (
      post (some (.int (-1))) h3
    ) else (
      (h3.1[l0]? = some (0, 11)) ∧
      ci G d m_X12_nodeOf [.ref l0, .int 0, .int r2, .int 3] h3 fun r4 h5 =>
      ci G d m_X12_within [.int l3, .int 0, .int (r4 - 1)] h5 fun r6 h7 =>
      if r6 = 0 then (
        post (some (.int (-1))) h7
      ) else (
        (h7.1[l0]? = some (0, 11)) ∧
        ci G d m_X12_nodeOf [.ref l0, .int 0, .int r2, .int 4] h7 fun r8 h9 =>
        Wp G (m_X12_listed, d + 1, 0, 0, post) (0, 0) 51 [.ref l0, .null, .null, .int l3, .null, .int r8, .int 0] [] h9
      )
    )) :
    Wp G (m_X12_listed, d + 1, 0, 0, post) (0, 0) 0 [.ref l0, .int l1, .int l2, .int l3, .null, .null, .null] [] h := by
  refine w_aload_n dX12_listed_0 rfl ?_
  refine w_iconst (v := 0) dX12_listed_1 rfl ?_
  obtain ⟨e1, w⟩ := w
  refine w_puti dX12_listed_2 lk_RX12_1 e1 rfl (Or.inl rfl) ?_
  have w := w _ rfl
  refine w_aload_n dX12_listed_5 rfl ?_
  refine w_iload_n dX12_listed_6 rfl ?_
  refine w_iload_n dX12_listed_7 rfl ?_
  refine w_callV (As := [.int l1, .int l2]) (st := []) dX12_listed_8 mt_X12_treeAt g_1790 g_1792 g_117 rfl e1 rfl rfl (Nat.le_of_ble_eq_true rfl) (Nat.le_refl _) ⟨Nat.le_refl _, Nat.le_refl _⟩ w ?_
  rintro v h3 ⟨r2, rfl, w⟩
  refine v_istore (l' := [.ref l0, .int l1, .int l2, .int l3, .int r2, .null, .null]) dX12_listed_11 (Nat.le_of_ble_eq_true rfl) rfl ?_
  refine w_iload dX12_listed_13 rfl ?_
  refine w_if_lt (tgt := 36) dX12_listed_15 rfl (fun c => ?_) (fun c => ?_)
  · rw [if_pos c] at w
    refine w_iconst (v := (-1)) dX12_listed_36 rfl ?_
    exact w_ireturn dX12_listed_37 rfl rfl ⟨Nat.le_refl _, Nat.le_refl _⟩ w
  · rw [if_neg c] at w
    refine w_iload_n dX12_listed_18 rfl ?_
    refine w_iconst (v := 0) dX12_listed_19 rfl ?_
    refine w_aload_n dX12_listed_20 rfl ?_
    refine w_iconst (v := 0) dX12_listed_21 rfl ?_
    refine w_iload dX12_listed_22 rfl ?_
    refine w_iconst (v := 3) dX12_listed_24 rfl ?_
    obtain ⟨e1, w⟩ := w
    refine w_callV (As := [.int 0, .int r2, .int 3]) (st := [.int 0, .int l3]) dX12_listed_25 mt_X12_nodeOf g_1420 g_1422 g_59 rfl e1 rfl rfl (Nat.le_of_ble_eq_true rfl) (Nat.le_refl _) ⟨Nat.le_refl _, Nat.le_refl _⟩ w ?_
    rintro v h5 ⟨r4, rfl, w⟩
    refine w_iconst (v := 1) dX12_listed_28 rfl ?_
    refine w_isub dX12_listed_29 ?_
    refine w_callS (As := [.int l3, .int 0, .int (r4 - 1)]) (st := []) dX12_listed_30 mt_X12_within g_1731 g_1732 rfl rfl (Nat.le_of_ble_eq_true rfl) (Nat.le_refl _) ⟨Nat.le_refl _, Nat.le_refl _⟩ w ?_
    rintro v h7 ⟨r6, rfl, w⟩
    refine w_if_ne (tgt := 38) dX12_listed_33 rfl (fun c => ?_) (fun c => ?_)
    · rw [if_neg c] at w
      refine w_aload_n dX12_listed_38 rfl ?_
      refine w_iconst (v := 0) dX12_listed_39 rfl ?_
      refine w_iload dX12_listed_40 rfl ?_
      refine w_iconst (v := 4) dX12_listed_42 rfl ?_
      obtain ⟨e1, w⟩ := w
      refine w_callV (As := [.int 0, .int r2, .int 4]) (st := []) dX12_listed_43 mt_X12_nodeOf g_1420 g_1422 g_59 rfl e1 rfl rfl (Nat.le_of_ble_eq_true rfl) (Nat.le_refl _) ⟨Nat.le_refl _, Nat.le_refl _⟩ w ?_
      rintro v h9 ⟨r8, rfl, w⟩
      refine v_istore (l' := [.ref l0, .int l1, .int l2, .int l3, .int r2, .int r8, .null]) dX12_listed_46 (Nat.le_of_ble_eq_true rfl) rfl ?_
      refine w_iconst (v := 0) dX12_listed_48 rfl ?_
      refine v_istore (l' := [.ref l0, .int l1, .int l2, .int l3, .int r2, .int r8, .int 0]) dX12_listed_49 (Nat.le_of_ble_eq_true rfl) rfl ?_
      exact w_drop (l' := [.ref l0, .null, .null, .int l3, .null, .int r8, .int 0]) ⟨Or.inr rfl, Or.inl rfl, Or.inl rfl, Or.inr rfl, Or.inl rfl, Or.inr rfl, Or.inr rfl, trivial⟩ w
    · rw [if_pos c] at w
      refine w_iconst (v := (-1)) dX12_listed_36 rfl ?_
      exact w_ireturn dX12_listed_37 rfl rfl ⟨Nat.le_refl _, Nat.le_refl _⟩ w
set_option maxRecDepth 20000 in
set_option maxHeartbeats 4000000 in
theorem x_X12_listed_51 {G : pm_G} {d : Nat} {post : pm_PT} {h : pm_H} {l0 : Nat} {l3 : Int32} {l5 : Int32} {l6 : Int32} (w :
    if l3 ≤ l6 then (
      post (some (.int l5)) h
    ) else (
      (h.1[l0]? = some (0, 11)) ∧
      ∃ n1 : Nat, h.1[gp h l0 17]? = some (1, n1) ∧
      (vp_in (300 + l5) n1) ∧
      Wp G (m_X12_listed, d + 1, 0, 0, post) (0, 0) 51 [.ref l0, .null, .null, .int l3, .null, .int (gi h (gp h l0 17) (300 + l5 : Int32).toNatClampNeg), .int (l6 + 1)] [] h
    )) :
    Wp G (m_X12_listed, d + 1, 0, 0, post) (0, 0) 51 [.ref l0, .null, .null, .int l3, .null, .int l5, .int l6] [] h := by
  refine w_iload dX12_listed_51 rfl ?_
  refine w_iload_n dX12_listed_53 rfl ?_
  refine w_ic_ge (tgt := 76) dX12_listed_54 rfl (fun c => ?_) (fun c => ?_)
  · rw [if_pos c] at w
    refine w_iload dX12_listed_76 rfl ?_
    exact w_ireturn dX12_listed_78 rfl rfl ⟨Nat.le_refl _, Nat.le_refl _⟩ w
  · rw [if_neg c] at w
    refine w_aload_n dX12_listed_57 rfl ?_
    obtain ⟨e1, w⟩ := w
    refine w_getp dX12_listed_58 lk_RX12_97 e1 rfl ?_
    refine w_sipush (v := 300) dX12_listed_61 rfl ?_
    refine w_iload dX12_listed_64 rfl ?_
    refine w_iadd dX12_listed_66 ?_
    obtain ⟨n1, ln1, w⟩ := w
    obtain ⟨e3, w⟩ := w
    refine w_iald dX12_listed_67 ln1 e3 ?_
    refine v_istore (l' := [.ref l0, .null, .null, .int l3, .null, .int (gi h (gp h l0 17) (300 + l5 : Int32).toNatClampNeg), .int l6]) dX12_listed_68 (Nat.le_of_ble_eq_true rfl) rfl ?_
    refine v_iinc (l' := [.ref l0, .null, .null, .int l3, .null, .int (gi h (gp h l0 17) (300 + l5 : Int32).toNatClampNeg), .int (l6 + 1)]) (v := l6 + 1) dX12_listed_70 rfl rfl (Nat.le_of_ble_eq_true rfl) rfl ?_
    refine w_goto (tgt := 51) dX12_listed_73 rfl ?_
    exact w
set_option maxRecDepth 20000 in
set_option maxHeartbeats 4000000 in
theorem x_X12_shelf {G : pm_G} {d : Nat} {post : pm_PT} {h : pm_H} {l0 : Nat} {l1 : Int32} (w :
    (h.1[l0]? = some (0, 11)) ∧
    ∀ h1 : pm_H, h1 = si h l0 0 0 →
    ∃ n2 : Nat, h.1[gp h1 l0 10]? = some (1, n2) ∧
    (vp_in 1 n2) ∧
    ci G d m_X12_within [.int l1, .int 0, .int ((gi h1 (gp h1 l0 10) (1 : Int32).toNatClampNeg) - 1)] h1 fun r3 h4 =>
    if r3 = 0 then (
      post (some (.int (-1))) h4
    ) else (
      (h4.1[l0]? = some (0, 11)) ∧
      ci G d m_X12_shelvedOn [.ref l0, .int 0, .int l1] h4 fun r5 h6 =>
      post (some (.int r5)) h6
    )) :
    Wp G (m_X12_shelf, d + 1, 0, 0, post) (0, 0) 0 [.ref l0, .int l1] [] h := by
  refine w_aload_n dX12_shelf_0 rfl ?_
  refine w_iconst (v := 0) dX12_shelf_1 rfl ?_
  obtain ⟨e1, w⟩ := w
  refine w_puti dX12_shelf_2 lk_RX12_1 e1 rfl (Or.inl rfl) ?_
  have w := w _ rfl
  refine w_iload_n dX12_shelf_5 rfl ?_
  refine w_iconst (v := 0) dX12_shelf_6 rfl ?_
  refine w_aload_n dX12_shelf_7 rfl ?_
  refine w_getp dX12_shelf_8 lk_RX12_79 e1 rfl ?_
  refine w_iconst (v := 1) dX12_shelf_11 rfl ?_
  obtain ⟨n2, ln2, w⟩ := w
  obtain ⟨e3, w⟩ := w
  refine w_iald dX12_shelf_12 ln2 e3 ?_
  refine w_iconst (v := 1) dX12_shelf_13 rfl ?_
  refine w_isub dX12_shelf_14 ?_
  refine w_callS (As := [.int l1, .int 0, .int ((gi (si h l0 0 0) (gp (si h l0 0 0) l0 10) (1 : Int32).toNatClampNeg) - 1)]) (st := []) dX12_shelf_15 mt_X12_within g_1731 g_1732 rfl rfl (Nat.le_of_ble_eq_true rfl) (Nat.le_refl _) ⟨Nat.le_refl _, Nat.le_refl _⟩ w ?_
  rintro v h4 ⟨r3, rfl, w⟩
  refine w_if_eq (tgt := 30) dX12_shelf_18 rfl (fun c => ?_) (fun c => ?_)
  · rw [if_pos c] at w
    refine w_iconst (v := (-1)) dX12_shelf_30 rfl ?_
    exact w_ireturn dX12_shelf_31 rfl rfl ⟨Nat.le_refl _, Nat.le_refl _⟩ w
  · rw [if_neg c] at w
    refine w_aload_n dX12_shelf_21 rfl ?_
    refine w_iconst (v := 0) dX12_shelf_22 rfl ?_
    refine w_iload_n dX12_shelf_23 rfl ?_
    obtain ⟨e1, w⟩ := w
    refine w_callV (As := [.int 0, .int l1]) (st := []) dX12_shelf_24 mt_X12_shelvedOn g_1738 g_1740 g_108 rfl e1 rfl rfl (Nat.le_of_ble_eq_true rfl) (Nat.le_refl _) ⟨Nat.le_refl _, Nat.le_refl _⟩ w ?_
    rintro v h6 ⟨r5, rfl, w⟩
    refine w_goto (tgt := 31) dX12_shelf_27 rfl ?_
    exact w_ireturn dX12_shelf_31 rfl rfl ⟨Nat.le_refl _, Nat.le_refl _⟩ w
set_option maxRecDepth 20000 in
set_option maxHeartbeats 4000000 in
theorem x_X12_comesOf {G : pm_G} {d : Nat} {post : pm_PT} {h : pm_H} {l0 : Nat} {l1 : Int32} {l2 : Int32} (w :
    (h.1[l0]? = some (0, 11)) ∧
    cv G d m_X12_moves [.ref l0, .int l1, .int 3795, .int 320] h fun h2 =>
    Wp G (m_X12_comesOf, d + 1, 0, 0, post) (0, 0) 13 [.ref l0, .null, .int l2, .int 0] [] h2) :
    Wp G (m_X12_comesOf, d + 1, 0, 0, post) (0, 0) 0 [.ref l0, .int l1, .int l2, .null] [] h := by
  refine w_aload_n dX12_comesOf_0 rfl ?_
  refine w_iload_n dX12_comesOf_1 rfl ?_
  refine w_sipush (v := 3795) dX12_comesOf_2 rfl ?_
  refine w_sipush (v := 320) dX12_comesOf_5 rfl ?_
  obtain ⟨e1, w⟩ := w
  refine w_callV (As := [.int l1, .int 3795, .int 320]) (st := []) dX12_comesOf_8 mt_X12_moves g_1703 g_1705 g_103 rfl e1 rfl rfl (Nat.le_of_ble_eq_true rfl) (Nat.le_refl _) ⟨Nat.le_refl _, Nat.le_refl _⟩ w ?_
  rintro v h2 ⟨rfl, w⟩
  refine w_iconst (v := 0) dX12_comesOf_11 rfl ?_
  refine v_istore_n (l' := [.ref l0, .int l1, .int l2, .int 0]) dX12_comesOf_12 (Nat.le_of_ble_eq_true rfl) rfl ?_
  exact w_drop (l' := [.ref l0, .null, .int l2, .int 0]) ⟨Or.inr rfl, Or.inl rfl, Or.inr rfl, Or.inr rfl, trivial⟩ w
set_option maxRecDepth 20000 in
set_option maxHeartbeats 4000000 in
theorem x_X12_comesOf_13 {G : pm_G} {d : Nat} {post : pm_PT} {h : pm_H} {l0 : Nat} {l2 : Int32} {l3 : Int32} (w :
    (h.1[l0]? = some (0, 11)) ∧
    ci G d m_X12_nextRoot [.ref l0, .int 3795, .int l2] h fun r1 h2 =>
    if r1 < 0 then (
      post (some (.int l3)) h2
    ) else (
      (h2.1[l0]? = some (0, 11)) ∧
      ci G d m_X12_takes [.ref l0, .int 3795, .int l2] h2 fun r3 h4 =>
      ∃ n5 : Nat, h4.1[gp h2 l0 22]? = some (1, n5) ∧
      (vp_in l3 n5) ∧
      ∀ h6 : pm_H, h6 = si h4 (gp h2 l0 22) (l3 : Int32).toNatClampNeg r3 →
      Wp G (m_X12_comesOf, d + 1, 0, 0, post) (0, 0) 13 [.ref l0, .null, .int l2, .int (l3 + 1)] [] h6
    )) :
    Wp G (m_X12_comesOf, d + 1, 0, 0, post) (0, 0) 13 [.ref l0, .null, .int l2, .int l3] [] h := by
  refine w_aload_n dX12_comesOf_13 rfl ?_
  refine w_sipush (v := 3795) dX12_comesOf_14 rfl ?_
  refine w_iload_n dX12_comesOf_17 rfl ?_
  obtain ⟨e1, w⟩ := w
  refine w_callV (As := [.int 3795, .int l2]) (st := []) dX12_comesOf_18 mt_X12_nextRoot g_1711 g_1713 g_104 rfl e1 rfl rfl (Nat.le_of_ble_eq_true rfl) (Nat.le_refl _) ⟨Nat.le_refl _, Nat.le_refl _⟩ w ?_
  rintro v h2 ⟨r1, rfl, w⟩
  refine w_if_lt (tgt := 44) dX12_comesOf_21 rfl (fun c => ?_) (fun c => ?_)
  · rw [if_pos c] at w
    refine w_iload_n dX12_comesOf_44 rfl ?_
    exact w_ireturn dX12_comesOf_45 rfl rfl ⟨Nat.le_refl _, Nat.le_refl _⟩ w
  · rw [if_neg c] at w
    refine w_aload_n dX12_comesOf_24 rfl ?_
    obtain ⟨e1, w⟩ := w
    refine w_getp dX12_comesOf_25 lk_RX12_107 e1 rfl ?_
    refine w_iload_n dX12_comesOf_28 rfl ?_
    refine w_aload_n dX12_comesOf_29 rfl ?_
    refine w_sipush (v := 3795) dX12_comesOf_30 rfl ?_
    refine w_iload_n dX12_comesOf_33 rfl ?_
    refine w_callV (As := [.int 3795, .int l2]) (st := [.int l3, .ref (gp h2 l0 22)]) dX12_comesOf_34 mt_X12_takes g_1715 g_1717 g_105 rfl e1 rfl rfl (Nat.le_of_ble_eq_true rfl) (Nat.le_refl _) ⟨Nat.le_refl _, Nat.le_refl _⟩ w ?_
    rintro v h4 ⟨r3, rfl, w⟩
    obtain ⟨n5, ln5, w⟩ := w
    obtain ⟨e2, w⟩ := w
    refine w_iast dX12_comesOf_37 ln5 e2 ?_
    have w := w _ rfl
    refine v_iinc (l' := [.ref l0, .null, .int l2, .int (l3 + 1)]) (v := l3 + 1) dX12_comesOf_38 rfl rfl (Nat.le_of_ble_eq_true rfl) rfl ?_
    refine w_goto (tgt := 13) dX12_comesOf_41 rfl ?_
    exact w
set_option maxRecDepth 20000 in
set_option maxHeartbeats 4000000 in
theorem x_X12_isAhead {G : pm_G} {d : Nat} {post : pm_PT} {h : pm_H} {l0 : Nat} {l1 : Int32} {l2 : Int32} (w :
    (h.1[l0]? = some (0, 11)) ∧
    ∃ n1 : Nat, h.1[gp h l0 21]? = some (1, n1) ∧
    (vp_in l1 n1) ∧
    (vp_in l2 n1) ∧
    if (gi h (gp h l0 21) (l1 : Int32).toNatClampNeg) < (gi h (gp h l0 21) (l2 : Int32).toNatClampNeg) then (
      post (some (.int 1)) h
    ) else (
      if (gi h (gp h l0 21) (l1 : Int32).toNatClampNeg) = (gi h (gp h l0 21) (l2 : Int32).toNatClampNeg) then (
        if l2 ≤ l1 then (
          post (some (.int 0)) h
        ) else (
          post (some (.int 1)) h
        )
      ) else (
        post (some (.int 0)) h
      )
    )) :
    Wp G (m_X12_isAhead, d + 1, 0, 0, post) (0, 0) 0 [.ref l0, .int l1, .int l2] [] h := by
  refine w_aload_n dX12_isAhead_0 rfl ?_
  obtain ⟨e1, w⟩ := w
  refine w_getp dX12_isAhead_1 lk_RX12_104 e1 rfl ?_
  refine w_iload_n dX12_isAhead_4 rfl ?_
  obtain ⟨n1, ln1, w⟩ := w
  obtain ⟨e3, w⟩ := w
  refine w_iald dX12_isAhead_5 ln1 e3 ?_
  refine w_aload_n dX12_isAhead_6 rfl ?_
  refine w_getp dX12_isAhead_7 lk_RX12_104 e1 rfl ?_
  refine w_iload_n dX12_isAhead_10 rfl ?_
  obtain ⟨e4, w⟩ := w
  refine w_iald dX12_isAhead_11 ln1 e4 ?_
  refine w_ic_lt (tgt := 35) dX12_isAhead_12 rfl (fun c => ?_) (fun c => ?_)
  · rw [if_pos c] at w
    refine w_iconst (v := 1) dX12_isAhead_35 rfl ?_
    refine w_goto (tgt := 40) dX12_isAhead_36 rfl ?_
    exact w_ireturn dX12_isAhead_40 rfl rfl ⟨Nat.le_refl _, Nat.le_refl _⟩ w
  · rw [if_neg c] at w
    refine w_aload_n dX12_isAhead_15 rfl ?_
    refine w_getp dX12_isAhead_16 lk_RX12_104 e1 rfl ?_
    refine w_iload_n dX12_isAhead_19 rfl ?_
    refine w_iald dX12_isAhead_20 ln1 e3 ?_
    refine w_aload_n dX12_isAhead_21 rfl ?_
    refine w_getp dX12_isAhead_22 lk_RX12_104 e1 rfl ?_
    refine w_iload_n dX12_isAhead_25 rfl ?_
    refine w_iald dX12_isAhead_26 ln1 e4 ?_
    refine w_ic_ne (tgt := 39) dX12_isAhead_27 rfl (fun c => ?_) (fun c => ?_)
    · rw [if_neg c] at w
      refine w_iconst (v := 0) dX12_isAhead_39 rfl ?_
      exact w_ireturn dX12_isAhead_40 rfl rfl ⟨Nat.le_refl _, Nat.le_refl _⟩ w
    · rw [if_pos c] at w
      refine w_iload_n dX12_isAhead_30 rfl ?_
      refine w_iload_n dX12_isAhead_31 rfl ?_
      refine w_ic_ge (tgt := 39) dX12_isAhead_32 rfl (fun c => ?_) (fun c => ?_)
      · rw [if_pos c] at w
        refine w_iconst (v := 0) dX12_isAhead_39 rfl ?_
        exact w_ireturn dX12_isAhead_40 rfl rfl ⟨Nat.le_refl _, Nat.le_refl _⟩ w
      · rw [if_neg c] at w
        refine w_iconst (v := 1) dX12_isAhead_35 rfl ?_
        refine w_goto (tgt := 40) dX12_isAhead_36 rfl ?_
        exact w_ireturn dX12_isAhead_40 rfl rfl ⟨Nat.le_refl _, Nat.le_refl _⟩ w
set_option maxRecDepth 20000 in
set_option maxHeartbeats 4000000 in
theorem x_X12_placeOf {G : pm_G} {d : Nat} {post : pm_PT} {h : pm_H} {l0 : Nat} {l1 : Int32} {l2 : Int32} {l3 : Int32} (w :
    Wp G (m_X12_placeOf, d + 1, 0, 0, post) (0, 0) 6 [.ref l0, .int l1, .int l2, .int l3, .int 0, .int 0] [] h) :
    Wp G (m_X12_placeOf, d + 1, 0, 0, post) (0, 0) 0 [.ref l0, .int l1, .int l2, .int l3, .null, .null] [] h := by
  refine w_iconst (v := 0) dX12_placeOf_0 rfl ?_
  refine v_istore (l' := [.ref l0, .int l1, .int l2, .int l3, .int 0, .null]) dX12_placeOf_1 (Nat.le_of_ble_eq_true rfl) rfl ?_
  refine w_iconst (v := 0) dX12_placeOf_3 rfl ?_
  refine v_istore (l' := [.ref l0, .int l1, .int l2, .int l3, .int 0, .int 0]) dX12_placeOf_4 (Nat.le_of_ble_eq_true rfl) rfl ?_
  exact w
set_option maxRecDepth 20000 in
set_option maxHeartbeats 4000000 in
theorem x_X12_placeOf_6 {G : pm_G} {d : Nat} {post : pm_PT} {h : pm_H} {l0 : Nat} {l1 : Int32} {l2 : Int32} {l3 : Int32} {l4 : Int32} {l5 : Int32} (w :
    (h.1[l0]? = some (0, 11)) ∧
    ci G d m_X12_items [.ref l0] h fun r1 h2 =>
    if r1 ≤ l5 then (
      post (some (.int l4)) h2
    ) else (
      (h2.1[l0]? = some (0, 11)) ∧
      ∃ n3 : Nat, h2.1[gp h2 l0 17]? = some (1, n3) ∧
      (vp_in ((l1 + 240) + l5) n3) ∧
      if (gi h2 (gp h2 l0 17) ((l1 + 240) + l5 : Int32).toNatClampNeg) = l2 then (
        ci G d m_X12_isAhead [.ref l0, .int l5, .int l3] h2 fun r4 h5 =>
        if r4 = 0 then (
          Wp G (m_X12_placeOf, d + 1, 0, 0, post) (0, 0) 6 [.ref l0, .int l1, .int l2, .int l3, .int (l4 + 0), .int (l5 + 1)] [] h5
        ) else (
          Wp G (m_X12_placeOf, d + 1, 0, 0, post) (0, 0) 6 [.ref l0, .int l1, .int l2, .int l3, .int (l4 + 1), .int (l5 + 1)] [] h5
        )
      ) else (
        Wp G (m_X12_placeOf, d + 1, 0, 0, post) (0, 0) 6 [.ref l0, .int l1, .int l2, .int l3, .int (l4 + 0), .int (l5 + 1)] [] h2
      )
    )) :
    Wp G (m_X12_placeOf, d + 1, 0, 0, post) (0, 0) 6 [.ref l0, .int l1, .int l2, .int l3, .int l4, .int l5] [] h := by
  refine w_iload dX12_placeOf_6 rfl ?_
  refine w_aload_n dX12_placeOf_8 rfl ?_
  obtain ⟨e1, w⟩ := w
  refine w_callV (As := []) (st := [.int l5]) dX12_placeOf_9 mt_X12_items g_1363 g_1365 g_52 rfl e1 rfl rfl (Nat.le_of_ble_eq_true rfl) (Nat.le_refl _) ⟨Nat.le_refl _, Nat.le_refl _⟩ w ?_
  rintro v h2 ⟨r1, rfl, w⟩
  refine w_ic_ge (tgt := 58) dX12_placeOf_12 rfl (fun c => ?_) (fun c => ?_)
  · rw [if_pos c] at w
    refine w_iload dX12_placeOf_58 rfl ?_
    exact w_ireturn dX12_placeOf_60 rfl rfl ⟨Nat.le_refl _, Nat.le_refl _⟩ w
  · rw [if_neg c] at w
    refine w_iload dX12_placeOf_15 rfl ?_
    refine w_aload_n dX12_placeOf_17 rfl ?_
    obtain ⟨e1, w⟩ := w
    refine w_getp dX12_placeOf_18 lk_RX12_97 e1 rfl ?_
    refine w_iload_n dX12_placeOf_21 rfl ?_
    refine w_sipush (v := 240) dX12_placeOf_22 rfl ?_
    refine w_iadd dX12_placeOf_25 ?_
    refine w_iload dX12_placeOf_26 rfl ?_
    refine w_iadd dX12_placeOf_28 ?_
    obtain ⟨n3, ln3, w⟩ := w
    obtain ⟨e3, w⟩ := w
    refine w_iald dX12_placeOf_29 ln3 e3 ?_
    refine w_iload_n dX12_placeOf_30 rfl ?_
    refine w_ic_ne (tgt := 48) dX12_placeOf_31 rfl (fun c => ?_) (fun c => ?_)
    · rw [if_neg c] at w
      refine w_iconst (v := 0) dX12_placeOf_48 rfl ?_
      refine w_iadd dX12_placeOf_49 ?_
      refine v_istore (l' := [.ref l0, .int l1, .int l2, .int l3, .int (l4 + 0), .int l5]) dX12_placeOf_50 (Nat.le_of_ble_eq_true rfl) rfl ?_
      refine v_iinc (l' := [.ref l0, .int l1, .int l2, .int l3, .int (l4 + 0), .int (l5 + 1)]) (v := l5 + 1) dX12_placeOf_52 rfl rfl (Nat.le_of_ble_eq_true rfl) rfl ?_
      refine w_goto (tgt := 6) dX12_placeOf_55 rfl ?_
      exact w
    · rw [if_pos c] at w
      refine w_aload_n dX12_placeOf_34 rfl ?_
      refine w_iload dX12_placeOf_35 rfl ?_
      refine w_iload_n dX12_placeOf_37 rfl ?_
      refine w_callV (As := [.int l5, .int l3]) (st := [.int l4]) dX12_placeOf_38 mt_X12_isAhead g_1834 g_1836 g_122 rfl e1 rfl rfl (Nat.le_of_ble_eq_true rfl) (Nat.le_refl _) ⟨Nat.le_refl _, Nat.le_refl _⟩ w ?_
      rintro v h5 ⟨r4, rfl, w⟩
      refine w_if_eq (tgt := 48) dX12_placeOf_41 rfl (fun c => ?_) (fun c => ?_)
      · rw [if_pos c] at w
        refine w_iconst (v := 0) dX12_placeOf_48 rfl ?_
        refine w_iadd dX12_placeOf_49 ?_
        refine v_istore (l' := [.ref l0, .int l1, .int l2, .int l3, .int (l4 + 0), .int l5]) dX12_placeOf_50 (Nat.le_of_ble_eq_true rfl) rfl ?_
        refine v_iinc (l' := [.ref l0, .int l1, .int l2, .int l3, .int (l4 + 0), .int (l5 + 1)]) (v := l5 + 1) dX12_placeOf_52 rfl rfl (Nat.le_of_ble_eq_true rfl) rfl ?_
        refine w_goto (tgt := 6) dX12_placeOf_55 rfl ?_
        exact w
      · rw [if_neg c] at w
        refine w_iconst (v := 1) dX12_placeOf_44 rfl ?_
        refine w_goto (tgt := 49) dX12_placeOf_45 rfl ?_
        refine w_iadd dX12_placeOf_49 ?_
        refine v_istore (l' := [.ref l0, .int l1, .int l2, .int l3, .int (l4 + 1), .int l5]) dX12_placeOf_50 (Nat.le_of_ble_eq_true rfl) rfl ?_
        refine v_iinc (l' := [.ref l0, .int l1, .int l2, .int l3, .int (l4 + 1), .int (l5 + 1)]) (v := l5 + 1) dX12_placeOf_52 rfl rfl (Nat.le_of_ble_eq_true rfl) rfl ?_
        refine w_goto (tgt := 6) dX12_placeOf_55 rfl ?_
        exact w
set_option maxRecDepth 20000 in
set_option maxHeartbeats 4000000 in
theorem x_X12_selectOf {G : pm_G} {d : Nat} {post : pm_PT} {h : pm_H} {l0 : Nat} {l1 : Int32} {l2 : Int32} (w :
    Wp G (m_X12_selectOf, d + 1, 0, 0, post) (0, 0) 5 [.ref l0, .int l1, .int l2, .int (-1), .int 0] [] h) :
    Wp G (m_X12_selectOf, d + 1, 0, 0, post) (0, 0) 0 [.ref l0, .int l1, .int l2, .null, .null] [] h := by
  refine w_iconst (v := (-1)) dX12_selectOf_0 rfl ?_
  refine v_istore_n (l' := [.ref l0, .int l1, .int l2, .int (-1), .null]) dX12_selectOf_1 (Nat.le_of_ble_eq_true rfl) rfl ?_
  refine w_iconst (v := 0) dX12_selectOf_2 rfl ?_
  refine v_istore (l' := [.ref l0, .int l1, .int l2, .int (-1), .int 0]) dX12_selectOf_3 (Nat.le_of_ble_eq_true rfl) rfl ?_
  exact w
set_option maxRecDepth 20000 in
set_option maxHeartbeats 4000000 in
theorem x_X12_selectOf_5 {G : pm_G} {d : Nat} {post : pm_PT} {h : pm_H} {l0 : Nat} {l1 : Int32} {l2 : Int32} {l3 : Int32} {l4 : Int32} (w :
    (h.1[l0]? = some (0, 11)) ∧
    ci G d m_X12_items [.ref l0] h fun r1 h2 =>
    if r1 ≤ l4 then (
      post (some (.int l3)) h2
    ) else (
      (h2.1[l0]? = some (0, 11)) ∧
      ∃ n3 : Nat, h2.1[gp h2 l0 17]? = some (1, n3) ∧
      (vp_in (240 + l4) n3) ∧
      if (gi h2 (gp h2 l0 17) (240 + l4 : Int32).toNatClampNeg) = l1 then (
        ci G d m_X12_placeOf [.ref l0, .int 0, .int l1, .int l4] h2 fun r4 h5 =>
        if r4 = l2 then (
          Wp G (m_X12_selectOf, d + 1, 0, 0, post) (0, 0) 5 [.ref l0, .int l1, .int l2, .int l4, .int (l4 + 1)] [] h5
        ) else (
          Wp G (m_X12_selectOf, d + 1, 0, 0, post) (0, 0) 5 [.ref l0, .int l1, .int l2, .int l3, .int (l4 + 1)] [] h5
        )
      ) else (
        Wp G (m_X12_selectOf, d + 1, 0, 0, post) (0, 0) 5 [.ref l0, .int l1, .int l2, .int l3, .int (l4 + 1)] [] h2
      )
    )) :
    Wp G (m_X12_selectOf, d + 1, 0, 0, post) (0, 0) 5 [.ref l0, .int l1, .int l2, .int l3, .int l4] [] h := by
  refine w_iload dX12_selectOf_5 rfl ?_
  refine w_aload_n dX12_selectOf_7 rfl ?_
  obtain ⟨e1, w⟩ := w
  refine w_callV (As := []) (st := [.int l4]) dX12_selectOf_8 mt_X12_items g_1363 g_1365 g_52 rfl e1 rfl rfl (Nat.le_of_ble_eq_true rfl) (Nat.le_refl _) ⟨Nat.le_refl _, Nat.le_refl _⟩ w ?_
  rintro v h2 ⟨r1, rfl, w⟩
  refine w_ic_ge (tgt := 54) dX12_selectOf_11 rfl (fun c => ?_) (fun c => ?_)
  · rw [if_pos c] at w
    refine w_iload_n dX12_selectOf_54 rfl ?_
    exact w_ireturn dX12_selectOf_55 rfl rfl ⟨Nat.le_refl _, Nat.le_refl _⟩ w
  · rw [if_neg c] at w
    refine w_aload_n dX12_selectOf_14 rfl ?_
    obtain ⟨e1, w⟩ := w
    refine w_getp dX12_selectOf_15 lk_RX12_97 e1 rfl ?_
    refine w_sipush (v := 240) dX12_selectOf_18 rfl ?_
    refine w_iload dX12_selectOf_21 rfl ?_
    refine w_iadd dX12_selectOf_23 ?_
    obtain ⟨n3, ln3, w⟩ := w
    obtain ⟨e3, w⟩ := w
    refine w_iald dX12_selectOf_24 ln3 e3 ?_
    refine w_iload_n dX12_selectOf_25 rfl ?_
    refine w_ic_ne (tgt := 46) dX12_selectOf_26 rfl (fun c => ?_) (fun c => ?_)
    · rw [if_neg c] at w
      refine w_iload_n dX12_selectOf_46 rfl ?_
      refine v_istore_n (l' := [.ref l0, .int l1, .int l2, .int l3, .int l4]) dX12_selectOf_47 (Nat.le_of_ble_eq_true rfl) rfl ?_
      refine v_iinc (l' := [.ref l0, .int l1, .int l2, .int l3, .int (l4 + 1)]) (v := l4 + 1) dX12_selectOf_48 rfl rfl (Nat.le_of_ble_eq_true rfl) rfl ?_
      refine w_goto (tgt := 5) dX12_selectOf_51 rfl ?_
      exact w
    · rw [if_pos c] at w
      refine w_aload_n dX12_selectOf_29 rfl ?_
      refine w_iconst (v := 0) dX12_selectOf_30 rfl ?_
      refine w_iload_n dX12_selectOf_31 rfl ?_
      refine w_iload dX12_selectOf_32 rfl ?_
      refine w_callV (As := [.int 0, .int l1, .int l4]) (st := []) dX12_selectOf_34 mt_X12_placeOf g_1830 g_1832 g_121 rfl e1 rfl rfl (Nat.le_of_ble_eq_true rfl) (Nat.le_refl _) ⟨Nat.le_refl _, Nat.le_refl _⟩ w ?_
      rintro v h5 ⟨r4, rfl, w⟩
      refine w_iload_n dX12_selectOf_37 rfl ?_
      refine w_ic_ne (tgt := 46) dX12_selectOf_38 rfl (fun c => ?_) (fun c => ?_)
      · rw [if_neg c] at w
        refine w_iload_n dX12_selectOf_46 rfl ?_
        refine v_istore_n (l' := [.ref l0, .int l1, .int l2, .int l3, .int l4]) dX12_selectOf_47 (Nat.le_of_ble_eq_true rfl) rfl ?_
        refine v_iinc (l' := [.ref l0, .int l1, .int l2, .int l3, .int (l4 + 1)]) (v := l4 + 1) dX12_selectOf_48 rfl rfl (Nat.le_of_ble_eq_true rfl) rfl ?_
        refine w_goto (tgt := 5) dX12_selectOf_51 rfl ?_
        exact w
      · rw [if_pos c] at w
        refine w_iload dX12_selectOf_41 rfl ?_
        refine w_goto (tgt := 47) dX12_selectOf_43 rfl ?_
        refine v_istore_n (l' := [.ref l0, .int l1, .int l2, .int l4, .int l4]) dX12_selectOf_47 (Nat.le_of_ble_eq_true rfl) rfl ?_
        refine v_iinc (l' := [.ref l0, .int l1, .int l2, .int l4, .int (l4 + 1)]) (v := l4 + 1) dX12_selectOf_48 rfl rfl (Nat.le_of_ble_eq_true rfl) rfl ?_
        refine w_goto (tgt := 5) dX12_selectOf_51 rfl ?_
        exact w
set_option maxRecDepth 20000 in
set_option maxHeartbeats 4000000 in
theorem x_X12_first {G : pm_G} {d : Nat} {post : pm_PT} {h : pm_H} {l0 : Nat} {l1 : Int32} (w :
    (h.1[l0]? = some (0, 11)) ∧
    ∀ h1 : pm_H, h1 = si h l0 0 0 →
    ci G d m_X12_isHeap [.ref l0, .int l1] h1 fun r2 h3 =>
    if r2 = 0 then (
      post (some (.int (-1))) h3
    ) else (
      (h3.1[l0]? = some (0, 11)) ∧
      ∀ h4 : pm_H, h4 = si h3 l0 19 ((gi h3 l0 19) + 1) →
      ci G d m_X12_nextRoot [.ref l0, .int 0, .int l1] h4 fun r5 h6 =>
      if 0 ≤ r5 then (
        (h6.1[l0]? = some (0, 11)) ∧
        ci G d m_X12_nodeOf [.ref l0, .int 0, .int r5, .int 4] h6 fun r7 h8 =>
        post (some (.int r7)) h8
      ) else (
        post (some (.int (-1))) h6
      )
    )) :
    Wp G (m_X12_first, d + 1, 0, 0, post) (0, 0) 0 [.ref l0, .int l1, .null] [] h := by
  refine w_aload_n dX12_first_0 rfl ?_
  refine w_iconst (v := 0) dX12_first_1 rfl ?_
  obtain ⟨e1, w⟩ := w
  refine w_puti dX12_first_2 lk_RX12_1 e1 rfl (Or.inl rfl) ?_
  have w := w _ rfl
  refine w_aload_n dX12_first_5 rfl ?_
  refine w_iload_n dX12_first_6 rfl ?_
  refine w_callV (As := [.int l1]) (st := []) dX12_first_7 mt_X12_isHeap g_1691 g_1693 g_100 rfl e1 rfl rfl (Nat.le_of_ble_eq_true rfl) (Nat.le_refl _) ⟨Nat.le_refl _, Nat.le_refl _⟩ w ?_
  rintro v h3 ⟨r2, rfl, w⟩
  refine w_if_ne (tgt := 15) dX12_first_10 rfl (fun c => ?_) (fun c => ?_)
  · rw [if_neg c] at w
    refine w_aload_n dX12_first_15 rfl ?_
    refine w_dup dX12_first_16 rfl ?_
    obtain ⟨e1, w⟩ := w
    refine w_geti dX12_first_17 lk_RX12_292 e1 rfl ?_
    refine w_iconst (v := 1) dX12_first_20 rfl ?_
    refine w_iadd dX12_first_21 ?_
    refine w_puti dX12_first_22 lk_RX12_292 e1 rfl (Or.inl rfl) ?_
    have w := w _ rfl
    refine w_aload_n dX12_first_25 rfl ?_
    refine w_iconst (v := 0) dX12_first_26 rfl ?_
    refine w_iload_n dX12_first_27 rfl ?_
    refine w_callV (As := [.int 0, .int l1]) (st := []) dX12_first_28 mt_X12_nextRoot g_1711 g_1713 g_104 rfl e1 rfl rfl (Nat.le_of_ble_eq_true rfl) (Nat.le_refl _) ⟨Nat.le_refl _, Nat.le_refl _⟩ w ?_
    rintro v h6 ⟨r5, rfl, w⟩
    refine v_istore_n (l' := [.ref l0, .int l1, .int r5]) dX12_first_31 (Nat.le_of_ble_eq_true rfl) rfl ?_
    refine w_iload_n dX12_first_32 rfl ?_
    refine w_if_ge (tgt := 40) dX12_first_33 rfl (fun c => ?_) (fun c => ?_)
    · rw [if_pos c] at w
      refine w_aload_n dX12_first_40 rfl ?_
      refine w_iconst (v := 0) dX12_first_41 rfl ?_
      refine w_iload_n dX12_first_42 rfl ?_
      refine w_iconst (v := 4) dX12_first_43 rfl ?_
      obtain ⟨e1, w⟩ := w
      refine w_callV (As := [.int 0, .int r5, .int 4]) (st := []) dX12_first_44 mt_X12_nodeOf g_1420 g_1422 g_59 rfl e1 rfl rfl (Nat.le_of_ble_eq_true rfl) (Nat.le_refl _) ⟨Nat.le_refl _, Nat.le_refl _⟩ w ?_
      rintro v h8 ⟨r7, rfl, w⟩
      exact w_ireturn dX12_first_47 rfl rfl ⟨Nat.le_refl _, Nat.le_refl _⟩ w
    · rw [if_neg c] at w
      refine w_iconst (v := (-1)) dX12_first_36 rfl ?_
      refine w_goto (tgt := 47) dX12_first_37 rfl ?_
      exact w_ireturn dX12_first_47 rfl rfl ⟨Nat.le_refl _, Nat.le_refl _⟩ w
  · rw [if_pos c] at w
    refine w_iconst (v := (-1)) dX12_first_13 rfl ?_
    exact w_ireturn dX12_first_14 rfl rfl ⟨Nat.le_refl _, Nat.le_refl _⟩ w
set_option maxRecDepth 20000 in
set_option maxHeartbeats 4000000 in
theorem x_X12_comes {G : pm_G} {d : Nat} {post : pm_PT} {h : pm_H} {l0 : Nat} {l1 : Int32} {l2 : Int32} (w :
    (h.1[l0]? = some (0, 11)) ∧
    ∀ h1 : pm_H, h1 = si h l0 0 0 →
    ci G d m_X12_isHeap [.ref l0, .int l1] h1 fun r2 h3 =>
    if r2 = 0 then (
      Wp G (m_X12_comes, d + 1, 0, 0, post) (0, 0) 32 [.ref l0, .null, .int l2, .int 0] [] h3
    ) else (
      (h3.1[l0]? = some (0, 11)) ∧
      ∀ h4 : pm_H, h4 = si h3 l0 19 ((gi h3 l0 19) + 1) →
      ci G d m_X12_comesOf [.ref l0, .int 0, .int l1] h4 fun r5 h6 =>
      Wp G (m_X12_comes, d + 1, 0, 0, post) (0, 0) 32 [.ref l0, .null, .int l2, .int r5] [] h6
    )) :
    Wp G (m_X12_comes, d + 1, 0, 0, post) (0, 0) 0 [.ref l0, .int l1, .int l2, .null] [] h := by
  refine w_aload_n dX12_comes_0 rfl ?_
  refine w_iconst (v := 0) dX12_comes_1 rfl ?_
  obtain ⟨e1, w⟩ := w
  refine w_puti dX12_comes_2 lk_RX12_1 e1 rfl (Or.inl rfl) ?_
  have w := w _ rfl
  refine w_iconst (v := 0) dX12_comes_5 rfl ?_
  refine v_istore_n (l' := [.ref l0, .int l1, .int l2, .int 0]) dX12_comes_6 (Nat.le_of_ble_eq_true rfl) rfl ?_
  refine w_aload_n dX12_comes_7 rfl ?_
  refine w_iload_n dX12_comes_8 rfl ?_
  refine w_callV (As := [.int l1]) (st := []) dX12_comes_9 mt_X12_isHeap g_1691 g_1693 g_100 rfl e1 rfl rfl (Nat.le_of_ble_eq_true rfl) (Nat.le_refl _) ⟨Nat.le_refl _, Nat.le_refl _⟩ w ?_
  rintro v h3 ⟨r2, rfl, w⟩
  refine w_if_eq (tgt := 32) dX12_comes_12 rfl (fun c => ?_) (fun c => ?_)
  · rw [if_pos c] at w
    exact w_drop (l' := [.ref l0, .null, .int l2, .int 0]) ⟨Or.inr rfl, Or.inl rfl, Or.inr rfl, Or.inr rfl, trivial⟩ w
  · rw [if_neg c] at w
    refine w_aload_n dX12_comes_15 rfl ?_
    refine w_dup dX12_comes_16 rfl ?_
    obtain ⟨e1, w⟩ := w
    refine w_geti dX12_comes_17 lk_RX12_292 e1 rfl ?_
    refine w_iconst (v := 1) dX12_comes_20 rfl ?_
    refine w_iadd dX12_comes_21 ?_
    refine w_puti dX12_comes_22 lk_RX12_292 e1 rfl (Or.inl rfl) ?_
    have w := w _ rfl
    refine w_aload_n dX12_comes_25 rfl ?_
    refine w_iconst (v := 0) dX12_comes_26 rfl ?_
    refine w_iload_n dX12_comes_27 rfl ?_
    refine w_callV (As := [.int 0, .int l1]) (st := []) dX12_comes_28 mt_X12_comesOf g_1818 g_1820 g_119 rfl e1 rfl rfl (Nat.le_of_ble_eq_true rfl) (Nat.le_refl _) ⟨Nat.le_refl _, Nat.le_refl _⟩ w ?_
    rintro v h6 ⟨r5, rfl, w⟩
    refine v_istore_n (l' := [.ref l0, .int l1, .int l2, .int r5]) dX12_comes_31 (Nat.le_of_ble_eq_true rfl) rfl ?_
    exact w_drop (l' := [.ref l0, .null, .int l2, .int r5]) ⟨Or.inr rfl, Or.inl rfl, Or.inr rfl, Or.inr rfl, trivial⟩ w
set_option maxRecDepth 20000 in
set_option maxHeartbeats 4000000 in
theorem x_X12_comes_32 {G : pm_G} {d : Nat} {post : pm_PT} {h : pm_H} {l0 : Nat} {l2 : Int32} {l3 : Int32} (w :
    ci G d m_X12_within [.int l2, .int 0, .int (l3 - 1)] h fun r1 h2 =>
    if r1 = 0 then (
      (h2.1[l0]? = some (0, 11)) ∧
      ∀ h3 : pm_H, h3 = si h2 l0 0 1 →
      if (gi h3 l0 0) ≤ 0 then (
        ∃ n4 : Nat, h2.1[gp h3 l0 22]? = some (1, n4) ∧
        (vp_in l2 n4) ∧
        post (some (.int (gi h3 (gp h3 l0 22) (l2 : Int32).toNatClampNeg))) h3
      ) else (
        post (some (.int 0)) h3
      )
    ) else (
      (h2.1[l0]? = some (0, 11)) ∧
      ∀ h5 : pm_H, h5 = si h2 l0 0 0 →
      if (gi h5 l0 0) ≤ 0 then (
        ∃ n6 : Nat, h2.1[gp h5 l0 22]? = some (1, n6) ∧
        (vp_in l2 n6) ∧
        post (some (.int (gi h5 (gp h5 l0 22) (l2 : Int32).toNatClampNeg))) h5
      ) else (
        post (some (.int 0)) h5
      )
    )) :
    Wp G (m_X12_comes, d + 1, 0, 0, post) (0, 0) 32 [.ref l0, .null, .int l2, .int l3] [] h := by
  refine w_aload_n dX12_comes_32 rfl ?_
  refine w_iload_n dX12_comes_33 rfl ?_
  refine w_iconst (v := 0) dX12_comes_34 rfl ?_
  refine w_iload_n dX12_comes_35 rfl ?_
  refine w_iconst (v := 1) dX12_comes_36 rfl ?_
  refine w_isub dX12_comes_37 ?_
  refine w_callS (As := [.int l2, .int 0, .int (l3 - 1)]) (st := [.ref l0]) dX12_comes_38 mt_X12_within g_1731 g_1732 rfl rfl (Nat.le_of_ble_eq_true rfl) (Nat.le_refl _) ⟨Nat.le_refl _, Nat.le_refl _⟩ w ?_
  rintro v h2 ⟨r1, rfl, w⟩
  refine w_if_eq (tgt := 48) dX12_comes_41 rfl (fun c => ?_) (fun c => ?_)
  · rw [if_pos c] at w
    refine w_iconst (v := 1) dX12_comes_48 rfl ?_
    obtain ⟨e1, w⟩ := w
    refine w_puti dX12_comes_49 lk_RX12_1 e1 rfl (Or.inl rfl) ?_
    have w := w _ rfl
    refine w_aload_n dX12_comes_52 rfl ?_
    refine w_geti dX12_comes_53 lk_RX12_1 e1 rfl ?_
    refine w_if_le (tgt := 63) dX12_comes_56 rfl (fun c => ?_) (fun c => ?_)
    · rw [if_pos c] at w
      refine w_aload_n dX12_comes_63 rfl ?_
      refine w_getp dX12_comes_64 lk_RX12_107 e1 rfl ?_
      refine w_iload_n dX12_comes_67 rfl ?_
      obtain ⟨n4, ln4, w⟩ := w
      obtain ⟨e3, w⟩ := w
      refine w_iald dX12_comes_68 ln4 e3 ?_
      exact w_ireturn dX12_comes_69 rfl rfl ⟨Nat.le_refl _, Nat.le_refl _⟩ w
    · rw [if_neg c] at w
      refine w_iconst (v := 0) dX12_comes_59 rfl ?_
      refine w_goto (tgt := 69) dX12_comes_60 rfl ?_
      exact w_ireturn dX12_comes_69 rfl rfl ⟨Nat.le_refl _, Nat.le_refl _⟩ w
  · rw [if_neg c] at w
    refine w_iconst (v := 0) dX12_comes_44 rfl ?_
    refine w_goto (tgt := 49) dX12_comes_45 rfl ?_
    obtain ⟨e1, w⟩ := w
    refine w_puti dX12_comes_49 lk_RX12_1 e1 rfl (Or.inl rfl) ?_
    have w := w _ rfl
    refine w_aload_n dX12_comes_52 rfl ?_
    refine w_geti dX12_comes_53 lk_RX12_1 e1 rfl ?_
    refine w_if_le (tgt := 63) dX12_comes_56 rfl (fun c => ?_) (fun c => ?_)
    · rw [if_pos c] at w
      refine w_aload_n dX12_comes_63 rfl ?_
      refine w_getp dX12_comes_64 lk_RX12_107 e1 rfl ?_
      refine w_iload_n dX12_comes_67 rfl ?_
      obtain ⟨n6, ln6, w⟩ := w
      obtain ⟨e3, w⟩ := w
      refine w_iald dX12_comes_68 ln6 e3 ?_
      exact w_ireturn dX12_comes_69 rfl rfl ⟨Nat.le_refl _, Nat.le_refl _⟩ w
    · rw [if_neg c] at w
      refine w_iconst (v := 0) dX12_comes_59 rfl ?_
      refine w_goto (tgt := 69) dX12_comes_60 rfl ?_
      exact w_ireturn dX12_comes_69 rfl rfl ⟨Nat.le_refl _, Nat.le_refl _⟩ w
set_option maxRecDepth 20000 in
set_option maxHeartbeats 4000000 in
theorem x_X12_awayOf {G : pm_G} {d : Nat} {post : pm_PT} {h : pm_H} {l0 : Nat} {l1 : Int32} {l2 : Int32} {l3 : Int32} (w :
    Wp G (m_X12_awayOf, d + 1, 0, 0, post) (0, 0) 6 [.ref l0, .int l1, .int l2, .int l3, .int 0, .int 0] [] h) :
    Wp G (m_X12_awayOf, d + 1, 0, 0, post) (0, 0) 0 [.ref l0, .int l1, .int l2, .int l3, .null, .null] [] h := by
  refine w_iconst (v := 0) dX12_awayOf_0 rfl ?_
  refine v_istore (l' := [.ref l0, .int l1, .int l2, .int l3, .int 0, .null]) dX12_awayOf_1 (Nat.le_of_ble_eq_true rfl) rfl ?_
  refine w_iconst (v := 0) dX12_awayOf_3 rfl ?_
  refine v_istore (l' := [.ref l0, .int l1, .int l2, .int l3, .int 0, .int 0]) dX12_awayOf_4 (Nat.le_of_ble_eq_true rfl) rfl ?_
  exact w
set_option maxRecDepth 20000 in
set_option maxHeartbeats 4000000 in
theorem x_X12_awayOf_6 {G : pm_G} {d : Nat} {post : pm_PT} {h : pm_H} {l0 : Nat} {l1 : Int32} {l2 : Int32} {l3 : Int32} {l4 : Int32} {l5 : Int32} (w :
    if l3 ≤ l5 then (
      (h.1[l0]? = some (0, 11)) ∧
      ci G d m_X12_placeOf [.ref l0, .int 0, .int l1, .int l2] h fun r1 h2 =>
      post (some (.int (l4 - r1))) h2
    ) else (
      (h.1[l0]? = some (0, 11)) ∧
      ∃ n3 : Nat, h.1[gp h l0 22]? = some (1, n3) ∧
      (vp_in l5 n3) ∧
      if (gi h (gp h l0 22) (l5 : Int32).toNatClampNeg) = l2 then (
        Wp G (m_X12_awayOf, d + 1, 0, 0, post) (0, 0) 6 [.ref l0, .int l1, .int l2, .int l3, .int l5, .int (l5 + 1)] [] h
      ) else (
        Wp G (m_X12_awayOf, d + 1, 0, 0, post) (0, 0) 6 [.ref l0, .int l1, .int l2, .int l3, .int l4, .int (l5 + 1)] [] h
      )
    )) :
    Wp G (m_X12_awayOf, d + 1, 0, 0, post) (0, 0) 6 [.ref l0, .int l1, .int l2, .int l3, .int l4, .int l5] [] h := by
  refine w_iload dX12_awayOf_6 rfl ?_
  refine w_iload_n dX12_awayOf_8 rfl ?_
  refine w_ic_ge (tgt := 38) dX12_awayOf_9 rfl (fun c => ?_) (fun c => ?_)
  · rw [if_pos c] at w
    refine w_iload dX12_awayOf_38 rfl ?_
    refine w_aload_n dX12_awayOf_40 rfl ?_
    refine w_iconst (v := 0) dX12_awayOf_41 rfl ?_
    refine w_iload_n dX12_awayOf_42 rfl ?_
    refine w_iload_n dX12_awayOf_43 rfl ?_
    obtain ⟨e1, w⟩ := w
    refine w_callV (As := [.int 0, .int l1, .int l2]) (st := [.int l4]) dX12_awayOf_44 mt_X12_placeOf g_1830 g_1832 g_121 rfl e1 rfl rfl (Nat.le_of_ble_eq_true rfl) (Nat.le_refl _) ⟨Nat.le_refl _, Nat.le_refl _⟩ w ?_
    rintro v h2 ⟨r1, rfl, w⟩
    refine w_isub dX12_awayOf_47 ?_
    exact w_ireturn dX12_awayOf_48 rfl rfl ⟨Nat.le_refl _, Nat.le_refl _⟩ w
  · rw [if_neg c] at w
    refine w_aload_n dX12_awayOf_12 rfl ?_
    obtain ⟨e1, w⟩ := w
    refine w_getp dX12_awayOf_13 lk_RX12_107 e1 rfl ?_
    refine w_iload dX12_awayOf_16 rfl ?_
    obtain ⟨n3, ln3, w⟩ := w
    obtain ⟨e3, w⟩ := w
    refine w_iald dX12_awayOf_18 ln3 e3 ?_
    refine w_iload_n dX12_awayOf_19 rfl ?_
    refine w_ic_ne (tgt := 28) dX12_awayOf_20 rfl (fun c => ?_) (fun c => ?_)
    · rw [if_neg c] at w
      refine w_iload dX12_awayOf_28 rfl ?_
      refine v_istore (l' := [.ref l0, .int l1, .int l2, .int l3, .int l4, .int l5]) dX12_awayOf_30 (Nat.le_of_ble_eq_true rfl) rfl ?_
      refine v_iinc (l' := [.ref l0, .int l1, .int l2, .int l3, .int l4, .int (l5 + 1)]) (v := l5 + 1) dX12_awayOf_32 rfl rfl (Nat.le_of_ble_eq_true rfl) rfl ?_
      refine w_goto (tgt := 6) dX12_awayOf_35 rfl ?_
      exact w
    · rw [if_pos c] at w
      refine w_iload dX12_awayOf_23 rfl ?_
      refine w_goto (tgt := 30) dX12_awayOf_25 rfl ?_
      refine v_istore (l' := [.ref l0, .int l1, .int l2, .int l3, .int l5, .int l5]) dX12_awayOf_30 (Nat.le_of_ble_eq_true rfl) rfl ?_
      refine v_iinc (l' := [.ref l0, .int l1, .int l2, .int l3, .int l5, .int (l5 + 1)]) (v := l5 + 1) dX12_awayOf_32 rfl rfl (Nat.le_of_ble_eq_true rfl) rfl ?_
      refine w_goto (tgt := 6) dX12_awayOf_35 rfl ?_
      exact w
set_option maxRecDepth 20000 in
set_option maxHeartbeats 4000000 in
theorem x_X12_away {G : pm_G} {d : Nat} {post : pm_PT} {h : pm_H} {l0 : Nat} {l1 : Int32} {l2 : Int32} (w :
    (h.1[l0]? = some (0, 11)) ∧
    ∀ h1 : pm_H, h1 = si h l0 0 0 →
    ci G d m_X12_isHeap [.ref l0, .int l1] h1 fun r2 h3 =>
    if r2 = 0 then (
      Wp G (m_X12_away, d + 1, 0, 0, post) (0, 0) 32 [.ref l0, .int l1, .int l2, .int 0] [] h3
    ) else (
      (h3.1[l0]? = some (0, 11)) ∧
      ∀ h4 : pm_H, h4 = si h3 l0 19 ((gi h3 l0 19) + 1) →
      ci G d m_X12_comesOf [.ref l0, .int 0, .int l1] h4 fun r5 h6 =>
      Wp G (m_X12_away, d + 1, 0, 0, post) (0, 0) 32 [.ref l0, .int l1, .int l2, .int r5] [] h6
    )) :
    Wp G (m_X12_away, d + 1, 0, 0, post) (0, 0) 0 [.ref l0, .int l1, .int l2, .null] [] h := by
  refine w_aload_n dX12_away_0 rfl ?_
  refine w_iconst (v := 0) dX12_away_1 rfl ?_
  obtain ⟨e1, w⟩ := w
  refine w_puti dX12_away_2 lk_RX12_1 e1 rfl (Or.inl rfl) ?_
  have w := w _ rfl
  refine w_iconst (v := 0) dX12_away_5 rfl ?_
  refine v_istore_n (l' := [.ref l0, .int l1, .int l2, .int 0]) dX12_away_6 (Nat.le_of_ble_eq_true rfl) rfl ?_
  refine w_aload_n dX12_away_7 rfl ?_
  refine w_iload_n dX12_away_8 rfl ?_
  refine w_callV (As := [.int l1]) (st := []) dX12_away_9 mt_X12_isHeap g_1691 g_1693 g_100 rfl e1 rfl rfl (Nat.le_of_ble_eq_true rfl) (Nat.le_refl _) ⟨Nat.le_refl _, Nat.le_refl _⟩ w ?_
  rintro v h3 ⟨r2, rfl, w⟩
  refine w_if_eq (tgt := 32) dX12_away_12 rfl (fun c => ?_) (fun c => ?_)
  · rw [if_pos c] at w
    exact w
  · rw [if_neg c] at w
    refine w_aload_n dX12_away_15 rfl ?_
    refine w_dup dX12_away_16 rfl ?_
    obtain ⟨e1, w⟩ := w
    refine w_geti dX12_away_17 lk_RX12_292 e1 rfl ?_
    refine w_iconst (v := 1) dX12_away_20 rfl ?_
    refine w_iadd dX12_away_21 ?_
    refine w_puti dX12_away_22 lk_RX12_292 e1 rfl (Or.inl rfl) ?_
    have w := w _ rfl
    refine w_aload_n dX12_away_25 rfl ?_
    refine w_iconst (v := 0) dX12_away_26 rfl ?_
    refine w_iload_n dX12_away_27 rfl ?_
    refine w_callV (As := [.int 0, .int l1]) (st := []) dX12_away_28 mt_X12_comesOf g_1818 g_1820 g_119 rfl e1 rfl rfl (Nat.le_of_ble_eq_true rfl) (Nat.le_refl _) ⟨Nat.le_refl _, Nat.le_refl _⟩ w ?_
    rintro v h6 ⟨r5, rfl, w⟩
    refine v_istore_n (l' := [.ref l0, .int l1, .int l2, .int r5]) dX12_away_31 (Nat.le_of_ble_eq_true rfl) rfl ?_
    exact w
set_option maxRecDepth 20000 in
set_option maxHeartbeats 4000000 in
theorem x_X12_away_32 {G : pm_G} {d : Nat} {post : pm_PT} {h : pm_H} {l0 : Nat} {l1 : Int32} {l2 : Int32} {l3 : Int32} (w :
    (h.1[l0]? = some (0, 11)) ∧
    ci G d m_X12_isHeap [.ref l0, .int l1] h fun r1 h2 =>
    if r1 = 0 then (
      (h2.1[l0]? = some (0, 11)) ∧
      ∀ h3 : pm_H, h3 = si h2 l0 0 1 →
      if (gi h3 l0 0) ≤ 0 then (
        ci G d m_X12_awayOf [.ref l0, .int l1, .int l2, .int l3] h3 fun r4 h5 =>
        post (some (.int r4)) h5
      ) else (
        post (some (.int 0)) h3
      )
    ) else (
      (h2.1[l0]? = some (0, 11)) ∧
      ci G d m_X12_isItem [.ref l0, .int l2] h2 fun r6 h7 =>
      if r6 = 0 then (
        (h7.1[l0]? = some (0, 11)) ∧
        ∀ h8 : pm_H, h8 = si h7 l0 0 1 →
        if (gi h8 l0 0) ≤ 0 then (
          ci G d m_X12_awayOf [.ref l0, .int l1, .int l2, .int l3] h8 fun r9 h10 =>
          post (some (.int r9)) h10
        ) else (
          post (some (.int 0)) h8
        )
      ) else (
        (h7.1[l0]? = some (0, 11)) ∧
        ∃ n11 : Nat, h7.1[gp h7 l0 17]? = some (1, n11) ∧
        (vp_in (240 + l2) n11) ∧
        if (gi h7 (gp h7 l0 17) (240 + l2 : Int32).toNatClampNeg) = l1 then (
          ∀ h12 : pm_H, h12 = si h7 l0 0 0 →
          if (gi h12 l0 0) ≤ 0 then (
            ci G d m_X12_awayOf [.ref l0, .int l1, .int l2, .int l3] h12 fun r13 h14 =>
            post (some (.int r13)) h14
          ) else (
            post (some (.int 0)) h12
          )
        ) else (
          ∀ h15 : pm_H, h15 = si h7 l0 0 1 →
          if (gi h15 l0 0) ≤ 0 then (
            ci G d m_X12_awayOf [.ref l0, .int l1, .int l2, .int l3] h15 fun r16 h17 =>
            post (some (.int r16)) h17
          ) else (
            post (some (.int 0)) h15
          )
        )
      )
    )) :
    Wp G (m_X12_away, d + 1, 0, 0, post) (0, 0) 32 [.ref l0, .int l1, .int l2, .int l3] [] h := by
  refine w_aload_n dX12_away_32 rfl ?_
  refine w_aload_n dX12_away_33 rfl ?_
  refine w_iload_n dX12_away_34 rfl ?_
  obtain ⟨e1, w⟩ := w
  refine w_callV (As := [.int l1]) (st := [.ref l0]) dX12_away_35 mt_X12_isHeap g_1691 g_1693 g_100 rfl e1 rfl rfl (Nat.le_of_ble_eq_true rfl) (Nat.le_refl _) ⟨Nat.le_refl _, Nat.le_refl _⟩ w ?_
  rintro v h2 ⟨r1, rfl, w⟩
  refine w_if_eq (tgt := 67) dX12_away_38 rfl (fun c => ?_) (fun c => ?_)
  · rw [if_pos c] at w
    refine w_iconst (v := 1) dX12_away_67 rfl ?_
    obtain ⟨e1, w⟩ := w
    refine w_puti dX12_away_68 lk_RX12_1 e1 rfl (Or.inl rfl) ?_
    have w := w _ rfl
    refine w_aload_n dX12_away_71 rfl ?_
    refine w_geti dX12_away_72 lk_RX12_1 e1 rfl ?_
    refine w_if_le (tgt := 82) dX12_away_75 rfl (fun c => ?_) (fun c => ?_)
    · rw [if_pos c] at w
      refine w_aload_n dX12_away_82 rfl ?_
      refine w_iload_n dX12_away_83 rfl ?_
      refine w_iload_n dX12_away_84 rfl ?_
      refine w_iload_n dX12_away_85 rfl ?_
      refine w_callV (As := [.int l1, .int l2, .int l3]) (st := []) dX12_away_86 mt_X12_awayOf g_1826 g_1828 g_120 rfl e1 rfl rfl (Nat.le_of_ble_eq_true rfl) (Nat.le_refl _) ⟨Nat.le_refl _, Nat.le_refl _⟩ w ?_
      rintro v h5 ⟨r4, rfl, w⟩
      exact w_ireturn dX12_away_89 rfl rfl ⟨Nat.le_refl _, Nat.le_refl _⟩ w
    · rw [if_neg c] at w
      refine w_iconst (v := 0) dX12_away_78 rfl ?_
      refine w_goto (tgt := 89) dX12_away_79 rfl ?_
      exact w_ireturn dX12_away_89 rfl rfl ⟨Nat.le_refl _, Nat.le_refl _⟩ w
  · rw [if_neg c] at w
    refine w_aload_n dX12_away_41 rfl ?_
    refine w_iload_n dX12_away_42 rfl ?_
    obtain ⟨e1, w⟩ := w
    refine w_callV (As := [.int l2]) (st := [.ref l0]) dX12_away_43 mt_X12_isItem g_1687 g_1689 g_99 rfl e1 rfl rfl (Nat.le_of_ble_eq_true rfl) (Nat.le_refl _) ⟨Nat.le_refl _, Nat.le_refl _⟩ w ?_
    rintro v h7 ⟨r6, rfl, w⟩
    refine w_if_eq (tgt := 67) dX12_away_46 rfl (fun c => ?_) (fun c => ?_)
    · rw [if_pos c] at w
      refine w_iconst (v := 1) dX12_away_67 rfl ?_
      obtain ⟨e1, w⟩ := w
      refine w_puti dX12_away_68 lk_RX12_1 e1 rfl (Or.inl rfl) ?_
      have w := w _ rfl
      refine w_aload_n dX12_away_71 rfl ?_
      refine w_geti dX12_away_72 lk_RX12_1 e1 rfl ?_
      refine w_if_le (tgt := 82) dX12_away_75 rfl (fun c => ?_) (fun c => ?_)
      · rw [if_pos c] at w
        refine w_aload_n dX12_away_82 rfl ?_
        refine w_iload_n dX12_away_83 rfl ?_
        refine w_iload_n dX12_away_84 rfl ?_
        refine w_iload_n dX12_away_85 rfl ?_
        refine w_callV (As := [.int l1, .int l2, .int l3]) (st := []) dX12_away_86 mt_X12_awayOf g_1826 g_1828 g_120 rfl e1 rfl rfl (Nat.le_of_ble_eq_true rfl) (Nat.le_refl _) ⟨Nat.le_refl _, Nat.le_refl _⟩ w ?_
        rintro v h10 ⟨r9, rfl, w⟩
        exact w_ireturn dX12_away_89 rfl rfl ⟨Nat.le_refl _, Nat.le_refl _⟩ w
      · rw [if_neg c] at w
        refine w_iconst (v := 0) dX12_away_78 rfl ?_
        refine w_goto (tgt := 89) dX12_away_79 rfl ?_
        exact w_ireturn dX12_away_89 rfl rfl ⟨Nat.le_refl _, Nat.le_refl _⟩ w
    · rw [if_neg c] at w
      refine w_aload_n dX12_away_49 rfl ?_
      obtain ⟨e1, w⟩ := w
      refine w_getp dX12_away_50 lk_RX12_97 e1 rfl ?_
      refine w_sipush (v := 240) dX12_away_53 rfl ?_
      refine w_iload_n dX12_away_56 rfl ?_
      refine w_iadd dX12_away_57 ?_
      obtain ⟨n11, ln11, w⟩ := w
      obtain ⟨e3, w⟩ := w
      refine w_iald dX12_away_58 ln11 e3 ?_
      refine w_iload_n dX12_away_59 rfl ?_
      refine w_ic_ne (tgt := 67) dX12_away_60 rfl (fun c => ?_) (fun c => ?_)
      · rw [if_neg c] at w
        refine w_iconst (v := 1) dX12_away_67 rfl ?_
        refine w_puti dX12_away_68 lk_RX12_1 e1 rfl (Or.inl rfl) ?_
        have w := w _ rfl
        refine w_aload_n dX12_away_71 rfl ?_
        refine w_geti dX12_away_72 lk_RX12_1 e1 rfl ?_
        refine w_if_le (tgt := 82) dX12_away_75 rfl (fun c => ?_) (fun c => ?_)
        · rw [if_pos c] at w
          refine w_aload_n dX12_away_82 rfl ?_
          refine w_iload_n dX12_away_83 rfl ?_
          refine w_iload_n dX12_away_84 rfl ?_
          refine w_iload_n dX12_away_85 rfl ?_
          refine w_callV (As := [.int l1, .int l2, .int l3]) (st := []) dX12_away_86 mt_X12_awayOf g_1826 g_1828 g_120 rfl e1 rfl rfl (Nat.le_of_ble_eq_true rfl) (Nat.le_refl _) ⟨Nat.le_refl _, Nat.le_refl _⟩ w ?_
          rintro v h17 ⟨r16, rfl, w⟩
          exact w_ireturn dX12_away_89 rfl rfl ⟨Nat.le_refl _, Nat.le_refl _⟩ w
        · rw [if_neg c] at w
          refine w_iconst (v := 0) dX12_away_78 rfl ?_
          refine w_goto (tgt := 89) dX12_away_79 rfl ?_
          exact w_ireturn dX12_away_89 rfl rfl ⟨Nat.le_refl _, Nat.le_refl _⟩ w
      · rw [if_pos c] at w
        refine w_iconst (v := 0) dX12_away_63 rfl ?_
        refine w_goto (tgt := 68) dX12_away_64 rfl ?_
        refine w_puti dX12_away_68 lk_RX12_1 e1 rfl (Or.inl rfl) ?_
        have w := w _ rfl
        refine w_aload_n dX12_away_71 rfl ?_
        refine w_geti dX12_away_72 lk_RX12_1 e1 rfl ?_
        refine w_if_le (tgt := 82) dX12_away_75 rfl (fun c => ?_) (fun c => ?_)
        · rw [if_pos c] at w
          refine w_aload_n dX12_away_82 rfl ?_
          refine w_iload_n dX12_away_83 rfl ?_
          refine w_iload_n dX12_away_84 rfl ?_
          refine w_iload_n dX12_away_85 rfl ?_
          refine w_callV (As := [.int l1, .int l2, .int l3]) (st := []) dX12_away_86 mt_X12_awayOf g_1826 g_1828 g_120 rfl e1 rfl rfl (Nat.le_of_ble_eq_true rfl) (Nat.le_refl _) ⟨Nat.le_refl _, Nat.le_refl _⟩ w ?_
          rintro v h14 ⟨r13, rfl, w⟩
          exact w_ireturn dX12_away_89 rfl rfl ⟨Nat.le_refl _, Nat.le_refl _⟩ w
        · rw [if_neg c] at w
          refine w_iconst (v := 0) dX12_away_78 rfl ?_
          refine w_goto (tgt := 89) dX12_away_79 rfl ?_
          exact w_ireturn dX12_away_89 rfl rfl ⟨Nat.le_refl _, Nat.le_refl _⟩ w
set_option maxRecDepth 20000 in
set_option maxHeartbeats 4000000 in
theorem x_X12_wrongs {G : pm_G} {d : Nat} {post : pm_PT} {h : pm_H} {l0 : Nat} {l1 : Int32} (w :
    (h.1[l0]? = some (0, 11)) ∧
    ∀ h1 : pm_H, h1 = si h l0 0 0 →
    ci G d m_X12_isHeap [.ref l0, .int l1] h1 fun r2 h3 =>
    if r2 = 0 then (
      post (some (.int (-1))) h3
    ) else (
      (h3.1[l0]? = some (0, 11)) ∧
      ∀ h4 : pm_H, h4 = si h3 l0 19 ((gi h3 l0 19) + 1) →
      ci G d m_X12_comesOf [.ref l0, .int 0, .int l1] h4 fun r5 h6 =>
      Wp G (m_X12_wrongs, d + 1, 0, 0, post) (0, 0) 37 [.ref l0, .null, .int r5, .int 0, .int 0, .null] [] h6
    )) :
    Wp G (m_X12_wrongs, d + 1, 0, 0, post) (0, 0) 0 [.ref l0, .int l1, .null, .null, .null, .null] [] h := by
  refine w_aload_n dX12_wrongs_0 rfl ?_
  refine w_iconst (v := 0) dX12_wrongs_1 rfl ?_
  obtain ⟨e1, w⟩ := w
  refine w_puti dX12_wrongs_2 lk_RX12_1 e1 rfl (Or.inl rfl) ?_
  have w := w _ rfl
  refine w_aload_n dX12_wrongs_5 rfl ?_
  refine w_iload_n dX12_wrongs_6 rfl ?_
  refine w_callV (As := [.int l1]) (st := []) dX12_wrongs_7 mt_X12_isHeap g_1691 g_1693 g_100 rfl e1 rfl rfl (Nat.le_of_ble_eq_true rfl) (Nat.le_refl _) ⟨Nat.le_refl _, Nat.le_refl _⟩ w ?_
  rintro v h3 ⟨r2, rfl, w⟩
  refine w_if_ne (tgt := 15) dX12_wrongs_10 rfl (fun c => ?_) (fun c => ?_)
  · rw [if_neg c] at w
    refine w_aload_n dX12_wrongs_15 rfl ?_
    refine w_dup dX12_wrongs_16 rfl ?_
    obtain ⟨e1, w⟩ := w
    refine w_geti dX12_wrongs_17 lk_RX12_292 e1 rfl ?_
    refine w_iconst (v := 1) dX12_wrongs_20 rfl ?_
    refine w_iadd dX12_wrongs_21 ?_
    refine w_puti dX12_wrongs_22 lk_RX12_292 e1 rfl (Or.inl rfl) ?_
    have w := w _ rfl
    refine w_aload_n dX12_wrongs_25 rfl ?_
    refine w_iconst (v := 0) dX12_wrongs_26 rfl ?_
    refine w_iload_n dX12_wrongs_27 rfl ?_
    refine w_callV (As := [.int 0, .int l1]) (st := []) dX12_wrongs_28 mt_X12_comesOf g_1818 g_1820 g_119 rfl e1 rfl rfl (Nat.le_of_ble_eq_true rfl) (Nat.le_refl _) ⟨Nat.le_refl _, Nat.le_refl _⟩ w ?_
    rintro v h6 ⟨r5, rfl, w⟩
    refine v_istore_n (l' := [.ref l0, .int l1, .int r5, .null, .null, .null]) dX12_wrongs_31 (Nat.le_of_ble_eq_true rfl) rfl ?_
    refine w_iconst (v := 0) dX12_wrongs_32 rfl ?_
    refine v_istore_n (l' := [.ref l0, .int l1, .int r5, .int 0, .null, .null]) dX12_wrongs_33 (Nat.le_of_ble_eq_true rfl) rfl ?_
    refine w_iconst (v := 0) dX12_wrongs_34 rfl ?_
    refine v_istore (l' := [.ref l0, .int l1, .int r5, .int 0, .int 0, .null]) dX12_wrongs_35 (Nat.le_of_ble_eq_true rfl) rfl ?_
    exact w_drop (l' := [.ref l0, .null, .int r5, .int 0, .int 0, .null]) ⟨Or.inr rfl, Or.inl rfl, Or.inr rfl, Or.inr rfl, Or.inr rfl, Or.inl rfl, trivial⟩ w
  · rw [if_pos c] at w
    refine w_iconst (v := (-1)) dX12_wrongs_13 rfl ?_
    exact w_ireturn dX12_wrongs_14 rfl rfl ⟨Nat.le_refl _, Nat.le_refl _⟩ w
set_option maxRecDepth 20000 in
set_option maxHeartbeats 4000000 in
theorem x_X12_wrongs_37 {G : pm_G} {d : Nat} {post : pm_PT} {h : pm_H} {l0 : Nat} {l2 : Int32} {l3 : Int32} {l4 : Int32} (w :
    if l2 ≤ l4 then (
      post (some (.int l3)) h
    ) else (
      Wp G (m_X12_wrongs, d + 1, 0, 0, post) (0, 0) 46 [.ref l0, .null, .int l2, .int l3, .int l4, .int 0] [] h
    )) :
    Wp G (m_X12_wrongs, d + 1, 0, 0, post) (0, 0) 37 [.ref l0, .null, .int l2, .int l3, .int l4, .null] [] h := by
  refine w_iload dX12_wrongs_37 rfl ?_
  refine w_iload_n dX12_wrongs_39 rfl ?_
  refine w_ic_ge (tgt := 100) dX12_wrongs_40 rfl (fun c => ?_) (fun c => ?_)
  · rw [if_pos c] at w
    refine w_iload_n dX12_wrongs_100 rfl ?_
    exact w_ireturn dX12_wrongs_101 rfl rfl ⟨Nat.le_refl _, Nat.le_refl _⟩ w
  · rw [if_neg c] at w
    refine w_iconst (v := 0) dX12_wrongs_43 rfl ?_
    refine v_istore (l' := [.ref l0, .null, .int l2, .int l3, .int l4, .int 0]) dX12_wrongs_44 (Nat.le_of_ble_eq_true rfl) rfl ?_
    exact w
set_option maxRecDepth 20000 in
set_option maxHeartbeats 4000000 in
theorem x_X12_wrongs_46 {G : pm_G} {d : Nat} {post : pm_PT} {h : pm_H} {l0 : Nat} {l2 : Int32} {l3 : Int32} {l4 : Int32} {l5 : Int32} (w :
    if l4 ≤ l5 then (
      Wp G (m_X12_wrongs, d + 1, 0, 0, post) (0, 0) 37 [.ref l0, .null, .int l2, .int l3, .int (l4 + 1), .null] [] h
    ) else (
      (h.1[l0]? = some (0, 11)) ∧
      ∃ n1 : Nat, h.1[gp h l0 22]? = some (1, n1) ∧
      (vp_in l4 n1) ∧
      ∃ n2 : Nat, h.1[gp h l0 21]? = some (1, n2) ∧
      (vp_in (gi h (gp h l0 22) (l4 : Int32).toNatClampNeg) n2) ∧
      (vp_in l5 n1) ∧
      (vp_in (gi h (gp h l0 22) (l5 : Int32).toNatClampNeg) n2) ∧
      if (gi h (gp h l0 21) (gi h (gp h l0 22) (l5 : Int32).toNatClampNeg : Int32).toNatClampNeg) ≤ (gi h (gp h l0 21) (gi h (gp h l0 22) (l4 : Int32).toNatClampNeg : Int32).toNatClampNeg) then (
        Wp G (m_X12_wrongs, d + 1, 0, 0, post) (0, 0) 46 [.ref l0, .null, .int l2, .int (l3 + 0), .int l4, .int (l5 + 1)] [] h
      ) else (
        Wp G (m_X12_wrongs, d + 1, 0, 0, post) (0, 0) 46 [.ref l0, .null, .int l2, .int (l3 + 1), .int l4, .int (l5 + 1)] [] h
      )
    )) :
    Wp G (m_X12_wrongs, d + 1, 0, 0, post) (0, 0) 46 [.ref l0, .null, .int l2, .int l3, .int l4, .int l5] [] h := by
  refine w_iload dX12_wrongs_46 rfl ?_
  refine w_iload dX12_wrongs_48 rfl ?_
  refine w_ic_ge (tgt := 94) dX12_wrongs_50 rfl (fun c => ?_) (fun c => ?_)
  · rw [if_pos c] at w
    refine v_iinc (l' := [.ref l0, .null, .int l2, .int l3, .int (l4 + 1), .int l5]) (v := l4 + 1) dX12_wrongs_94 rfl rfl (Nat.le_of_ble_eq_true rfl) rfl ?_
    refine w_goto (tgt := 37) dX12_wrongs_97 rfl ?_
    exact w_drop (l' := [.ref l0, .null, .int l2, .int l3, .int (l4 + 1), .null]) ⟨Or.inr rfl, Or.inl rfl, Or.inr rfl, Or.inr rfl, Or.inr rfl, Or.inl rfl, trivial⟩ w
  · rw [if_neg c] at w
    refine w_iload_n dX12_wrongs_53 rfl ?_
    refine w_aload_n dX12_wrongs_54 rfl ?_
    obtain ⟨e1, w⟩ := w
    refine w_getp dX12_wrongs_55 lk_RX12_104 e1 rfl ?_
    refine w_aload_n dX12_wrongs_58 rfl ?_
    refine w_getp dX12_wrongs_59 lk_RX12_107 e1 rfl ?_
    refine w_iload dX12_wrongs_62 rfl ?_
    obtain ⟨n1, ln1, w⟩ := w
    obtain ⟨e3, w⟩ := w
    refine w_iald dX12_wrongs_64 ln1 e3 ?_
    obtain ⟨n2, ln2, w⟩ := w
    obtain ⟨e5, w⟩ := w
    refine w_iald dX12_wrongs_65 ln2 e5 ?_
    refine w_aload_n dX12_wrongs_66 rfl ?_
    refine w_getp dX12_wrongs_67 lk_RX12_104 e1 rfl ?_
    refine w_aload_n dX12_wrongs_70 rfl ?_
    refine w_getp dX12_wrongs_71 lk_RX12_107 e1 rfl ?_
    refine w_iload dX12_wrongs_74 rfl ?_
    obtain ⟨e6, w⟩ := w
    refine w_iald dX12_wrongs_76 ln1 e6 ?_
    obtain ⟨e7, w⟩ := w
    refine w_iald dX12_wrongs_77 ln2 e7 ?_
    refine w_ic_ge (tgt := 85) dX12_wrongs_78 rfl (fun c => ?_) (fun c => ?_)
    · rw [if_pos c] at w
      refine w_iconst (v := 0) dX12_wrongs_85 rfl ?_
      refine w_iadd dX12_wrongs_86 ?_
      refine v_istore_n (l' := [.ref l0, .null, .int l2, .int (l3 + 0), .int l4, .int l5]) dX12_wrongs_87 (Nat.le_of_ble_eq_true rfl) rfl ?_
      refine v_iinc (l' := [.ref l0, .null, .int l2, .int (l3 + 0), .int l4, .int (l5 + 1)]) (v := l5 + 1) dX12_wrongs_88 rfl rfl (Nat.le_of_ble_eq_true rfl) rfl ?_
      refine w_goto (tgt := 46) dX12_wrongs_91 rfl ?_
      exact w
    · rw [if_neg c] at w
      refine w_iconst (v := 1) dX12_wrongs_81 rfl ?_
      refine w_goto (tgt := 86) dX12_wrongs_82 rfl ?_
      refine w_iadd dX12_wrongs_86 ?_
      refine v_istore_n (l' := [.ref l0, .null, .int l2, .int (l3 + 1), .int l4, .int l5]) dX12_wrongs_87 (Nat.le_of_ble_eq_true rfl) rfl ?_
      refine v_iinc (l' := [.ref l0, .null, .int l2, .int (l3 + 1), .int l4, .int (l5 + 1)]) (v := l5 + 1) dX12_wrongs_88 rfl rfl (Nat.le_of_ble_eq_true rfl) rfl ?_
      refine w_goto (tgt := 46) dX12_wrongs_91 rfl ?_
      exact w
set_option maxRecDepth 20000 in
set_option maxHeartbeats 4000000 in
theorem x_X12_far {G : pm_G} {d : Nat} {post : pm_PT} {h : pm_H} {l0 : Nat} {l1 : Int32} (w :
    (h.1[l0]? = some (0, 11)) ∧
    ∀ h1 : pm_H, h1 = si h l0 0 0 →
    ci G d m_X12_isHeap [.ref l0, .int l1] h1 fun r2 h3 =>
    if r2 = 0 then (
      post (some (.int (-1))) h3
    ) else (
      (h3.1[l0]? = some (0, 11)) ∧
      ∀ h4 : pm_H, h4 = si h3 l0 19 ((gi h3 l0 19) + 1) →
      ci G d m_X12_comesOf [.ref l0, .int 0, .int l1] h4 fun r5 h6 =>
      Wp G (m_X12_far, d + 1, 0, 0, post) (0, 0) 37 [.ref l0, .int l1, .int r5, .int 0, .int 0, .null] [] h6
    )) :
    Wp G (m_X12_far, d + 1, 0, 0, post) (0, 0) 0 [.ref l0, .int l1, .null, .null, .null, .null] [] h := by
  refine w_aload_n dX12_far_0 rfl ?_
  refine w_iconst (v := 0) dX12_far_1 rfl ?_
  obtain ⟨e1, w⟩ := w
  refine w_puti dX12_far_2 lk_RX12_1 e1 rfl (Or.inl rfl) ?_
  have w := w _ rfl
  refine w_aload_n dX12_far_5 rfl ?_
  refine w_iload_n dX12_far_6 rfl ?_
  refine w_callV (As := [.int l1]) (st := []) dX12_far_7 mt_X12_isHeap g_1691 g_1693 g_100 rfl e1 rfl rfl (Nat.le_of_ble_eq_true rfl) (Nat.le_refl _) ⟨Nat.le_refl _, Nat.le_refl _⟩ w ?_
  rintro v h3 ⟨r2, rfl, w⟩
  refine w_if_ne (tgt := 15) dX12_far_10 rfl (fun c => ?_) (fun c => ?_)
  · rw [if_neg c] at w
    refine w_aload_n dX12_far_15 rfl ?_
    refine w_dup dX12_far_16 rfl ?_
    obtain ⟨e1, w⟩ := w
    refine w_geti dX12_far_17 lk_RX12_292 e1 rfl ?_
    refine w_iconst (v := 1) dX12_far_20 rfl ?_
    refine w_iadd dX12_far_21 ?_
    refine w_puti dX12_far_22 lk_RX12_292 e1 rfl (Or.inl rfl) ?_
    have w := w _ rfl
    refine w_aload_n dX12_far_25 rfl ?_
    refine w_iconst (v := 0) dX12_far_26 rfl ?_
    refine w_iload_n dX12_far_27 rfl ?_
    refine w_callV (As := [.int 0, .int l1]) (st := []) dX12_far_28 mt_X12_comesOf g_1818 g_1820 g_119 rfl e1 rfl rfl (Nat.le_of_ble_eq_true rfl) (Nat.le_refl _) ⟨Nat.le_refl _, Nat.le_refl _⟩ w ?_
    rintro v h6 ⟨r5, rfl, w⟩
    refine v_istore_n (l' := [.ref l0, .int l1, .int r5, .null, .null, .null]) dX12_far_31 (Nat.le_of_ble_eq_true rfl) rfl ?_
    refine w_iconst (v := 0) dX12_far_32 rfl ?_
    refine v_istore_n (l' := [.ref l0, .int l1, .int r5, .int 0, .null, .null]) dX12_far_33 (Nat.le_of_ble_eq_true rfl) rfl ?_
    refine w_iconst (v := 0) dX12_far_34 rfl ?_
    refine v_istore (l' := [.ref l0, .int l1, .int r5, .int 0, .int 0, .null]) dX12_far_35 (Nat.le_of_ble_eq_true rfl) rfl ?_
    exact w
  · rw [if_pos c] at w
    refine w_iconst (v := (-1)) dX12_far_13 rfl ?_
    exact w_ireturn dX12_far_14 rfl rfl ⟨Nat.le_refl _, Nat.le_refl _⟩ w
set_option maxRecDepth 20000 in
set_option maxHeartbeats 4000000 in
theorem x_X12_far_37 {G : pm_G} {d : Nat} {post : pm_PT} {h : pm_H} {l0 : Nat} {l1 : Int32} {l2 : Int32} {l3 : Int32} {l4 : Int32} (w :
    if l2 ≤ l4 then (
      post (some (.int l3)) h
    ) else (
      (h.1[l0]? = some (0, 11)) ∧
      ∃ n1 : Nat, h.1[gp h l0 22]? = some (1, n1) ∧
      (vp_in l4 n1) ∧
      ci G d m_X12_awayOf [.ref l0, .int l1, .int (gi h (gp h l0 22) (l4 : Int32).toNatClampNeg), .int l2] h fun r2 h3 =>
      if 0 ≤ r2 then (
        if r2 ≤ l3 then (
          Wp G (m_X12_far, d + 1, 0, 0, post) (0, 0) 37 [.ref l0, .int l1, .int l2, .int l3, .int (l4 + 1), .null] [] h3
        ) else (
          Wp G (m_X12_far, d + 1, 0, 0, post) (0, 0) 37 [.ref l0, .int l1, .int l2, .int r2, .int (l4 + 1), .null] [] h3
        )
      ) else (
        if (-r2) ≤ l3 then (
          Wp G (m_X12_far, d + 1, 0, 0, post) (0, 0) 37 [.ref l0, .int l1, .int l2, .int l3, .int (l4 + 1), .null] [] h3
        ) else (
          Wp G (m_X12_far, d + 1, 0, 0, post) (0, 0) 37 [.ref l0, .int l1, .int l2, .int (-r2), .int (l4 + 1), .null] [] h3
        )
      )
    )) :
    Wp G (m_X12_far, d + 1, 0, 0, post) (0, 0) 37 [.ref l0, .int l1, .int l2, .int l3, .int l4, .null] [] h := by
  refine w_iload dX12_far_37 rfl ?_
  refine w_iload_n dX12_far_39 rfl ?_
  refine w_ic_ge (tgt := 92) dX12_far_40 rfl (fun c => ?_) (fun c => ?_)
  · rw [if_pos c] at w
    refine w_iload_n dX12_far_92 rfl ?_
    exact w_ireturn dX12_far_93 rfl rfl ⟨Nat.le_refl _, Nat.le_refl _⟩ w
  · rw [if_neg c] at w
    refine w_aload_n dX12_far_43 rfl ?_
    refine w_iload_n dX12_far_44 rfl ?_
    refine w_aload_n dX12_far_45 rfl ?_
    obtain ⟨e1, w⟩ := w
    refine w_getp dX12_far_46 lk_RX12_107 e1 rfl ?_
    refine w_iload dX12_far_49 rfl ?_
    obtain ⟨n1, ln1, w⟩ := w
    obtain ⟨e3, w⟩ := w
    refine w_iald dX12_far_51 ln1 e3 ?_
    refine w_iload_n dX12_far_52 rfl ?_
    refine w_callV (As := [.int l1, .int (gi h (gp h l0 22) (l4 : Int32).toNatClampNeg), .int l2]) (st := []) dX12_far_53 mt_X12_awayOf g_1826 g_1828 g_120 rfl e1 rfl rfl (Nat.le_of_ble_eq_true rfl) (Nat.le_refl _) ⟨Nat.le_refl _, Nat.le_refl _⟩ w ?_
    rintro v h3 ⟨r2, rfl, w⟩
    refine v_istore (l' := [.ref l0, .int l1, .int l2, .int l3, .int l4, .int r2]) dX12_far_56 (Nat.le_of_ble_eq_true rfl) rfl ?_
    refine w_iload dX12_far_58 rfl ?_
    refine w_if_ge (tgt := 69) dX12_far_60 rfl (fun c => ?_) (fun c => ?_)
    · rw [if_pos c] at w
      refine w_iload dX12_far_69 rfl ?_
      refine v_istore (l' := [.ref l0, .int l1, .int l2, .int l3, .int l4, .int r2]) dX12_far_71 (Nat.le_of_ble_eq_true rfl) rfl ?_
      refine w_iload dX12_far_73 rfl ?_
      refine w_iload_n dX12_far_75 rfl ?_
      refine w_ic_le (tgt := 84) dX12_far_76 rfl (fun c => ?_) (fun c => ?_)
      · rw [if_pos c] at w
        refine w_iload_n dX12_far_84 rfl ?_
        refine v_istore_n (l' := [.ref l0, .int l1, .int l2, .int l3, .int l4, .int r2]) dX12_far_85 (Nat.le_of_ble_eq_true rfl) rfl ?_
        refine v_iinc (l' := [.ref l0, .int l1, .int l2, .int l3, .int (l4 + 1), .int r2]) (v := l4 + 1) dX12_far_86 rfl rfl (Nat.le_of_ble_eq_true rfl) rfl ?_
        refine w_goto (tgt := 37) dX12_far_89 rfl ?_
        exact w_drop (l' := [.ref l0, .int l1, .int l2, .int l3, .int (l4 + 1), .null]) ⟨Or.inr rfl, Or.inr rfl, Or.inr rfl, Or.inr rfl, Or.inr rfl, Or.inl rfl, trivial⟩ w
      · rw [if_neg c] at w
        refine w_iload dX12_far_79 rfl ?_
        refine w_goto (tgt := 85) dX12_far_81 rfl ?_
        refine v_istore_n (l' := [.ref l0, .int l1, .int l2, .int r2, .int l4, .int r2]) dX12_far_85 (Nat.le_of_ble_eq_true rfl) rfl ?_
        refine v_iinc (l' := [.ref l0, .int l1, .int l2, .int r2, .int (l4 + 1), .int r2]) (v := l4 + 1) dX12_far_86 rfl rfl (Nat.le_of_ble_eq_true rfl) rfl ?_
        refine w_goto (tgt := 37) dX12_far_89 rfl ?_
        exact w_drop (l' := [.ref l0, .int l1, .int l2, .int r2, .int (l4 + 1), .null]) ⟨Or.inr rfl, Or.inr rfl, Or.inr rfl, Or.inr rfl, Or.inr rfl, Or.inl rfl, trivial⟩ w
    · rw [if_neg c] at w
      refine w_iload dX12_far_63 rfl ?_
      refine w_ineg dX12_far_65 ?_
      refine w_goto (tgt := 71) dX12_far_66 rfl ?_
      refine v_istore (l' := [.ref l0, .int l1, .int l2, .int l3, .int l4, .int (-r2)]) dX12_far_71 (Nat.le_of_ble_eq_true rfl) rfl ?_
      refine w_iload dX12_far_73 rfl ?_
      refine w_iload_n dX12_far_75 rfl ?_
      refine w_ic_le (tgt := 84) dX12_far_76 rfl (fun c => ?_) (fun c => ?_)
      · rw [if_pos c] at w
        refine w_iload_n dX12_far_84 rfl ?_
        refine v_istore_n (l' := [.ref l0, .int l1, .int l2, .int l3, .int l4, .int (-r2)]) dX12_far_85 (Nat.le_of_ble_eq_true rfl) rfl ?_
        refine v_iinc (l' := [.ref l0, .int l1, .int l2, .int l3, .int (l4 + 1), .int (-r2)]) (v := l4 + 1) dX12_far_86 rfl rfl (Nat.le_of_ble_eq_true rfl) rfl ?_
        refine w_goto (tgt := 37) dX12_far_89 rfl ?_
        exact w_drop (l' := [.ref l0, .int l1, .int l2, .int l3, .int (l4 + 1), .null]) ⟨Or.inr rfl, Or.inr rfl, Or.inr rfl, Or.inr rfl, Or.inr rfl, Or.inl rfl, trivial⟩ w
      · rw [if_neg c] at w
        refine w_iload dX12_far_79 rfl ?_
        refine w_goto (tgt := 85) dX12_far_81 rfl ?_
        refine v_istore_n (l' := [.ref l0, .int l1, .int l2, .int (-r2), .int l4, .int (-r2)]) dX12_far_85 (Nat.le_of_ble_eq_true rfl) rfl ?_
        refine v_iinc (l' := [.ref l0, .int l1, .int l2, .int (-r2), .int (l4 + 1), .int (-r2)]) (v := l4 + 1) dX12_far_86 rfl rfl (Nat.le_of_ble_eq_true rfl) rfl ?_
        refine w_goto (tgt := 37) dX12_far_89 rfl ?_
        exact w_drop (l' := [.ref l0, .int l1, .int l2, .int (-r2), .int (l4 + 1), .null]) ⟨Or.inr rfl, Or.inr rfl, Or.inr rfl, Or.inr rfl, Or.inr rfl, Or.inl rfl, trivial⟩ w
set_option maxRecDepth 20000 in
set_option maxHeartbeats 4000000 in
theorem x_X12_select {G : pm_G} {d : Nat} {post : pm_PT} {h : pm_H} {l0 : Nat} {l1 : Int32} {l2 : Int32} (w :
    (h.1[l0]? = some (0, 11)) ∧
    ∀ h1 : pm_H, h1 = si h l0 0 0 →
    ci G d m_X12_isHeap [.ref l0, .int l1] h1 fun r2 h3 =>
    if r2 = 0 then (
      post (some (.int (-1))) h3
    ) else (
      if l2 < 0 then (
        post (some (.int (-1))) h3
      ) else (
        (h3.1[l0]? = some (0, 11)) ∧
        ci G d m_X12_selectOf [.ref l0, .int l1, .int l2] h3 fun r4 h5 =>
        post (some (.int r4)) h5
      )
    )) :
    Wp G (m_X12_select, d + 1, 0, 0, post) (0, 0) 0 [.ref l0, .int l1, .int l2] [] h := by
  refine w_aload_n dX12_select_0 rfl ?_
  refine w_iconst (v := 0) dX12_select_1 rfl ?_
  obtain ⟨e1, w⟩ := w
  refine w_puti dX12_select_2 lk_RX12_1 e1 rfl (Or.inl rfl) ?_
  have w := w _ rfl
  refine w_aload_n dX12_select_5 rfl ?_
  refine w_iload_n dX12_select_6 rfl ?_
  refine w_callV (As := [.int l1]) (st := []) dX12_select_7 mt_X12_isHeap g_1691 g_1693 g_100 rfl e1 rfl rfl (Nat.le_of_ble_eq_true rfl) (Nat.le_refl _) ⟨Nat.le_refl _, Nat.le_refl _⟩ w ?_
  rintro v h3 ⟨r2, rfl, w⟩
  refine w_if_eq (tgt := 26) dX12_select_10 rfl (fun c => ?_) (fun c => ?_)
  · rw [if_pos c] at w
    refine w_iconst (v := (-1)) dX12_select_26 rfl ?_
    exact w_ireturn dX12_select_27 rfl rfl ⟨Nat.le_refl _, Nat.le_refl _⟩ w
  · rw [if_neg c] at w
    refine w_iload_n dX12_select_13 rfl ?_
    refine w_if_lt (tgt := 26) dX12_select_14 rfl (fun c => ?_) (fun c => ?_)
    · rw [if_pos c] at w
      refine w_iconst (v := (-1)) dX12_select_26 rfl ?_
      exact w_ireturn dX12_select_27 rfl rfl ⟨Nat.le_refl _, Nat.le_refl _⟩ w
    · rw [if_neg c] at w
      refine w_aload_n dX12_select_17 rfl ?_
      refine w_iload_n dX12_select_18 rfl ?_
      refine w_iload_n dX12_select_19 rfl ?_
      obtain ⟨e1, w⟩ := w
      refine w_callV (As := [.int l1, .int l2]) (st := []) dX12_select_20 mt_X12_selectOf g_1850 g_1852 g_123 rfl e1 rfl rfl (Nat.le_of_ble_eq_true rfl) (Nat.le_refl _) ⟨Nat.le_refl _, Nat.le_refl _⟩ w ?_
      rintro v h5 ⟨r4, rfl, w⟩
      refine w_goto (tgt := 27) dX12_select_23 rfl ?_
      exact w_ireturn dX12_select_27 rfl rfl ⟨Nat.le_refl _, Nat.le_refl _⟩ w
set_option maxRecDepth 20000 in
set_option maxHeartbeats 4000000 in
theorem x_X12_splitOf {G : pm_G} {d : Nat} {post : pm_PT} {h : pm_H} {l0 : Nat} {l1 : Int32} (w :
    if 1 ≤ (l1 / 3) then (
      Wp G (m_X12_splitOf, d + 1, 0, 0, post) (0, 0) 20 [.ref l0, .int l1, .int (l1 / 3), .int (-1), .int 0] [] h
    ) else (
      Wp G (m_X12_splitOf, d + 1, 0, 0, post) (0, 0) 20 [.ref l0, .int l1, .int 1, .int (-1), .int 0] [] h
    )) :
    Wp G (m_X12_splitOf, d + 1, 0, 0, post) (0, 0) 0 [.ref l0, .int l1, .null, .null, .null] [] h := by
  refine w_iload_n dX12_splitOf_0 rfl ?_
  refine w_iconst (v := 3) dX12_splitOf_1 rfl ?_
  refine w_idiv dX12_splitOf_2 (by decide) ?_
  refine w_iconst (v := 1) dX12_splitOf_3 rfl ?_
  refine w_ic_ge (tgt := 11) dX12_splitOf_4 rfl (fun c => ?_) (fun c => ?_)
  · rw [if_pos c] at w
    refine w_iload_n dX12_splitOf_11 rfl ?_
    refine w_iconst (v := 3) dX12_splitOf_12 rfl ?_
    refine w_idiv dX12_splitOf_13 (by decide) ?_
    refine v_istore_n (l' := [.ref l0, .int l1, .int (l1 / 3), .null, .null]) dX12_splitOf_14 (Nat.le_of_ble_eq_true rfl) rfl ?_
    refine w_iconst (v := (-1)) dX12_splitOf_15 rfl ?_
    refine v_istore_n (l' := [.ref l0, .int l1, .int (l1 / 3), .int (-1), .null]) dX12_splitOf_16 (Nat.le_of_ble_eq_true rfl) rfl ?_
    refine w_iconst (v := 0) dX12_splitOf_17 rfl ?_
    refine v_istore (l' := [.ref l0, .int l1, .int (l1 / 3), .int (-1), .int 0]) dX12_splitOf_18 (Nat.le_of_ble_eq_true rfl) rfl ?_
    exact w
  · rw [if_neg c] at w
    refine w_iconst (v := 1) dX12_splitOf_7 rfl ?_
    refine w_goto (tgt := 14) dX12_splitOf_8 rfl ?_
    refine v_istore_n (l' := [.ref l0, .int l1, .int 1, .null, .null]) dX12_splitOf_14 (Nat.le_of_ble_eq_true rfl) rfl ?_
    refine w_iconst (v := (-1)) dX12_splitOf_15 rfl ?_
    refine v_istore_n (l' := [.ref l0, .int l1, .int 1, .int (-1), .null]) dX12_splitOf_16 (Nat.le_of_ble_eq_true rfl) rfl ?_
    refine w_iconst (v := 0) dX12_splitOf_17 rfl ?_
    refine v_istore (l' := [.ref l0, .int l1, .int 1, .int (-1), .int 0]) dX12_splitOf_18 (Nat.le_of_ble_eq_true rfl) rfl ?_
    exact w
set_option maxRecDepth 20000 in
set_option maxHeartbeats 4000000 in
theorem x_X12_splitOf_20 {G : pm_G} {d : Nat} {post : pm_PT} {h : pm_H} {l0 : Nat} {l1 : Int32} {l2 : Int32} {l3 : Int32} {l4 : Int32} (w :
    if l2 ≤ l4 then (
      post (some (.int l3)) h
    ) else (
      if l1 ≤ l4 then (
        post (some (.int l3)) h
      ) else (
        if l3 < 0 then (
          (h.1[l0]? = some (0, 11)) ∧
          ∃ n1 : Nat, h.1[gp h l0 22]? = some (1, n1) ∧
          (vp_in l4 n1) ∧
          Wp G (m_X12_splitOf, d + 1, 0, 0, post) (0, 0) 20 [.ref l0, .int l1, .int l2, .int (gi h (gp h l0 22) (l4 : Int32).toNatClampNeg), .int (l4 + 1)] [] h
        ) else (
          (h.1[l0]? = some (0, 11)) ∧
          ∃ n2 : Nat, h.1[gp h l0 22]? = some (1, n2) ∧
          (vp_in l4 n2) ∧
          ci G d m_X12_isAhead [.ref l0, .int l3, .int (gi h (gp h l0 22) (l4 : Int32).toNatClampNeg)] h fun r3 h4 =>
          if r3 = 0 then (
            Wp G (m_X12_splitOf, d + 1, 0, 0, post) (0, 0) 20 [.ref l0, .int l1, .int l2, .int l3, .int (l4 + 1)] [] h4
          ) else (
            (h4.1[l0]? = some (0, 11)) ∧
            ∃ n5 : Nat, h4.1[gp h4 l0 22]? = some (1, n5) ∧
            (vp_in l4 n5) ∧
            Wp G (m_X12_splitOf, d + 1, 0, 0, post) (0, 0) 20 [.ref l0, .int l1, .int l2, .int (gi h4 (gp h4 l0 22) (l4 : Int32).toNatClampNeg), .int (l4 + 1)] [] h4
          )
        )
      )
    )) :
    Wp G (m_X12_splitOf, d + 1, 0, 0, post) (0, 0) 20 [.ref l0, .int l1, .int l2, .int l3, .int l4] [] h := by
  refine w_iload dX12_splitOf_20 rfl ?_
  refine w_iload_n dX12_splitOf_22 rfl ?_
  refine w_ic_ge (tgt := 69) dX12_splitOf_23 rfl (fun c => ?_) (fun c => ?_)
  · rw [if_pos c] at w
    refine w_iload_n dX12_splitOf_69 rfl ?_
    exact w_ireturn dX12_splitOf_70 rfl rfl ⟨Nat.le_refl _, Nat.le_refl _⟩ w
  · rw [if_neg c] at w
    refine w_iload dX12_splitOf_26 rfl ?_
    refine w_iload_n dX12_splitOf_28 rfl ?_
    refine w_ic_ge (tgt := 69) dX12_splitOf_29 rfl (fun c => ?_) (fun c => ?_)
    · rw [if_pos c] at w
      refine w_iload_n dX12_splitOf_69 rfl ?_
      exact w_ireturn dX12_splitOf_70 rfl rfl ⟨Nat.le_refl _, Nat.le_refl _⟩ w
    · rw [if_neg c] at w
      refine w_iload_n dX12_splitOf_32 rfl ?_
      refine w_if_lt (tgt := 51) dX12_splitOf_33 rfl (fun c => ?_) (fun c => ?_)
      · rw [if_pos c] at w
        refine w_aload_n dX12_splitOf_51 rfl ?_
        obtain ⟨e1, w⟩ := w
        refine w_getp dX12_splitOf_52 lk_RX12_107 e1 rfl ?_
        refine w_iload dX12_splitOf_55 rfl ?_
        obtain ⟨n1, ln1, w⟩ := w
        obtain ⟨e3, w⟩ := w
        refine w_iald dX12_splitOf_57 ln1 e3 ?_
        refine w_goto (tgt := 62) dX12_splitOf_58 rfl ?_
        refine v_istore_n (l' := [.ref l0, .int l1, .int l2, .int (gi h (gp h l0 22) (l4 : Int32).toNatClampNeg), .int l4]) dX12_splitOf_62 (Nat.le_of_ble_eq_true rfl) rfl ?_
        refine v_iinc (l' := [.ref l0, .int l1, .int l2, .int (gi h (gp h l0 22) (l4 : Int32).toNatClampNeg), .int (l4 + 1)]) (v := l4 + 1) dX12_splitOf_63 rfl rfl (Nat.le_of_ble_eq_true rfl) rfl ?_
        refine w_goto (tgt := 20) dX12_splitOf_66 rfl ?_
        exact w
      · rw [if_neg c] at w
        refine w_aload_n dX12_splitOf_36 rfl ?_
        refine w_iload_n dX12_splitOf_37 rfl ?_
        refine w_aload_n dX12_splitOf_38 rfl ?_
        obtain ⟨e1, w⟩ := w
        refine w_getp dX12_splitOf_39 lk_RX12_107 e1 rfl ?_
        refine w_iload dX12_splitOf_42 rfl ?_
        obtain ⟨n2, ln2, w⟩ := w
        obtain ⟨e3, w⟩ := w
        refine w_iald dX12_splitOf_44 ln2 e3 ?_
        refine w_callV (As := [.int l3, .int (gi h (gp h l0 22) (l4 : Int32).toNatClampNeg)]) (st := []) dX12_splitOf_45 mt_X12_isAhead g_1834 g_1836 g_122 rfl e1 rfl rfl (Nat.le_of_ble_eq_true rfl) (Nat.le_refl _) ⟨Nat.le_refl _, Nat.le_refl _⟩ w ?_
        rintro v h4 ⟨r3, rfl, w⟩
        refine w_if_eq (tgt := 61) dX12_splitOf_48 rfl (fun c => ?_) (fun c => ?_)
        · rw [if_pos c] at w
          refine w_iload_n dX12_splitOf_61 rfl ?_
          refine v_istore_n (l' := [.ref l0, .int l1, .int l2, .int l3, .int l4]) dX12_splitOf_62 (Nat.le_of_ble_eq_true rfl) rfl ?_
          refine v_iinc (l' := [.ref l0, .int l1, .int l2, .int l3, .int (l4 + 1)]) (v := l4 + 1) dX12_splitOf_63 rfl rfl (Nat.le_of_ble_eq_true rfl) rfl ?_
          refine w_goto (tgt := 20) dX12_splitOf_66 rfl ?_
          exact w
        · rw [if_neg c] at w
          refine w_aload_n dX12_splitOf_51 rfl ?_
          obtain ⟨e1, w⟩ := w
          refine w_getp dX12_splitOf_52 lk_RX12_107 e1 rfl ?_
          refine w_iload dX12_splitOf_55 rfl ?_
          obtain ⟨n5, ln5, w⟩ := w
          obtain ⟨e3, w⟩ := w
          refine w_iald dX12_splitOf_57 ln5 e3 ?_
          refine w_goto (tgt := 62) dX12_splitOf_58 rfl ?_
          refine v_istore_n (l' := [.ref l0, .int l1, .int l2, .int (gi h4 (gp h4 l0 22) (l4 : Int32).toNatClampNeg), .int l4]) dX12_splitOf_62 (Nat.le_of_ble_eq_true rfl) rfl ?_
          refine v_iinc (l' := [.ref l0, .int l1, .int l2, .int (gi h4 (gp h4 l0 22) (l4 : Int32).toNatClampNeg), .int (l4 + 1)]) (v := l4 + 1) dX12_splitOf_63 rfl rfl (Nat.le_of_ble_eq_true rfl) rfl ?_
          refine w_goto (tgt := 20) dX12_splitOf_66 rfl ?_
          exact w
set_option maxRecDepth 20000 in
set_option maxHeartbeats 4000000 in
theorem x_X12_split {G : pm_G} {d : Nat} {post : pm_PT} {h : pm_H} {l0 : Nat} {l1 : Int32} {l2 : Int32} (w :
    (h.1[l0]? = some (0, 11)) ∧
    ∀ h1 : pm_H, h1 = si h l0 0 0 →
    ci G d m_X12_isHeap [.ref l0, .int l1] h1 fun r2 h3 =>
    if r2 = 0 then (
      post (some (.int (-1))) h3
    ) else (
      (h3.1[l0]? = some (0, 11)) ∧
      ∀ h4 : pm_H, h4 = si h3 l0 19 ((gi h3 l0 19) + 1) →
      ci G d m_X12_comesOf [.ref l0, .int 0, .int l1] h4 fun r5 h6 =>
      (h6.1[l0]? = some (0, 11)) ∧
      ci G d m_X12_splitOf [.ref l0, .int r5] h6 fun r7 h8 =>
      if r7 < 0 then (
        post (some (.int (-1))) h8
      ) else (
        ci G d m_X12_within [.int l2, .int 0, .int 1] h8 fun r9 h10 =>
        if r9 = 0 then (
          post (some (.int (-1))) h10
        ) else (
          if l2 = 0 then (
            post (some (.int r7)) h10
          ) else (
            (h10.1[l0]? = some (0, 11)) ∧
            ci G d m_X12_placeOf [.ref l0, .int 0, .int l1, .int r7] h10 fun r11 h12 =>
            post (some (.int r11)) h12
          )
        )
      )
    )) :
    Wp G (m_X12_split, d + 1, 0, 0, post) (0, 0) 0 [.ref l0, .int l1, .int l2, .null] [] h := by
  refine w_aload_n dX12_split_0 rfl ?_
  refine w_iconst (v := 0) dX12_split_1 rfl ?_
  obtain ⟨e1, w⟩ := w
  refine w_puti dX12_split_2 lk_RX12_1 e1 rfl (Or.inl rfl) ?_
  have w := w _ rfl
  refine w_aload_n dX12_split_5 rfl ?_
  refine w_iload_n dX12_split_6 rfl ?_
  refine w_callV (As := [.int l1]) (st := []) dX12_split_7 mt_X12_isHeap g_1691 g_1693 g_100 rfl e1 rfl rfl (Nat.le_of_ble_eq_true rfl) (Nat.le_refl _) ⟨Nat.le_refl _, Nat.le_refl _⟩ w ?_
  rintro v h3 ⟨r2, rfl, w⟩
  refine w_if_ne (tgt := 15) dX12_split_10 rfl (fun c => ?_) (fun c => ?_)
  · rw [if_neg c] at w
    refine w_aload_n dX12_split_15 rfl ?_
    refine w_dup dX12_split_16 rfl ?_
    obtain ⟨e1, w⟩ := w
    refine w_geti dX12_split_17 lk_RX12_292 e1 rfl ?_
    refine w_iconst (v := 1) dX12_split_20 rfl ?_
    refine w_iadd dX12_split_21 ?_
    refine w_puti dX12_split_22 lk_RX12_292 e1 rfl (Or.inl rfl) ?_
    have w := w _ rfl
    refine w_aload_n dX12_split_25 rfl ?_
    refine w_aload_n dX12_split_26 rfl ?_
    refine w_iconst (v := 0) dX12_split_27 rfl ?_
    refine w_iload_n dX12_split_28 rfl ?_
    refine w_callV (As := [.int 0, .int l1]) (st := [.ref l0]) dX12_split_29 mt_X12_comesOf g_1818 g_1820 g_119 rfl e1 rfl rfl (Nat.le_of_ble_eq_true rfl) (Nat.le_refl _) ⟨Nat.le_refl _, Nat.le_refl _⟩ w ?_
    rintro v h6 ⟨r5, rfl, w⟩
    obtain ⟨e1, w⟩ := w
    refine w_callV (As := [.int r5]) (st := []) dX12_split_32 mt_X12_splitOf g_1858 g_1860 g_124 rfl e1 rfl rfl (Nat.le_of_ble_eq_true rfl) (Nat.le_refl _) ⟨Nat.le_refl _, Nat.le_refl _⟩ w ?_
    rintro v h8 ⟨r7, rfl, w⟩
    refine v_istore_n (l' := [.ref l0, .int l1, .int l2, .int r7]) dX12_split_35 (Nat.le_of_ble_eq_true rfl) rfl ?_
    refine w_iload_n dX12_split_36 rfl ?_
    refine w_if_lt (tgt := 49) dX12_split_37 rfl (fun c => ?_) (fun c => ?_)
    · rw [if_pos c] at w
      refine w_iconst (v := (-1)) dX12_split_49 rfl ?_
      refine w_goto (tgt := 68) dX12_split_50 rfl ?_
      exact w_ireturn dX12_split_68 rfl rfl ⟨Nat.le_refl _, Nat.le_refl _⟩ w
    · rw [if_neg c] at w
      refine w_iload_n dX12_split_40 rfl ?_
      refine w_iconst (v := 0) dX12_split_41 rfl ?_
      refine w_iconst (v := 1) dX12_split_42 rfl ?_
      refine w_callS (As := [.int l2, .int 0, .int 1]) (st := []) dX12_split_43 mt_X12_within g_1731 g_1732 rfl rfl (Nat.le_of_ble_eq_true rfl) (Nat.le_refl _) ⟨Nat.le_refl _, Nat.le_refl _⟩ w ?_
      rintro v h10 ⟨r9, rfl, w⟩
      refine w_if_ne (tgt := 53) dX12_split_46 rfl (fun c => ?_) (fun c => ?_)
      · rw [if_neg c] at w
        refine w_iload_n dX12_split_53 rfl ?_
        refine w_if_ne (tgt := 61) dX12_split_54 rfl (fun c => ?_) (fun c => ?_)
        · rw [if_neg c] at w
          refine w_aload_n dX12_split_61 rfl ?_
          refine w_iconst (v := 0) dX12_split_62 rfl ?_
          refine w_iload_n dX12_split_63 rfl ?_
          refine w_iload_n dX12_split_64 rfl ?_
          obtain ⟨e1, w⟩ := w
          refine w_callV (As := [.int 0, .int l1, .int r7]) (st := []) dX12_split_65 mt_X12_placeOf g_1830 g_1832 g_121 rfl e1 rfl rfl (Nat.le_of_ble_eq_true rfl) (Nat.le_refl _) ⟨Nat.le_refl _, Nat.le_refl _⟩ w ?_
          rintro v h12 ⟨r11, rfl, w⟩
          exact w_ireturn dX12_split_68 rfl rfl ⟨Nat.le_refl _, Nat.le_refl _⟩ w
        · rw [if_pos c] at w
          refine w_iload_n dX12_split_57 rfl ?_
          refine w_goto (tgt := 68) dX12_split_58 rfl ?_
          exact w_ireturn dX12_split_68 rfl rfl ⟨Nat.le_refl _, Nat.le_refl _⟩ w
      · rw [if_pos c] at w
        refine w_iconst (v := (-1)) dX12_split_49 rfl ?_
        refine w_goto (tgt := 68) dX12_split_50 rfl ?_
        exact w_ireturn dX12_split_68 rfl rfl ⟨Nat.le_refl _, Nat.le_refl _⟩ w
  · rw [if_pos c] at w
    refine w_iconst (v := (-1)) dX12_split_13 rfl ?_
    exact w_ireturn dX12_split_14 rfl rfl ⟨Nat.le_refl _, Nat.le_refl _⟩ w
set_option maxRecDepth 20000 in
set_option maxHeartbeats 4000000 in
theorem x_X12_steps {G : pm_G} {d : Nat} {post : pm_PT} {h : pm_H} {l0 : Nat} {l1 : Int32} {l2 : Int32} (w :
    (h.1[l0]? = some (0, 11)) ∧
    ∀ h1 : pm_H, h1 = si h l0 0 0 →
    ci G d m_X12_isHeap [.ref l0, .int l1] h1 fun r2 h3 =>
    if r2 = 0 then (
      post (some (.int (-1))) h3
    ) else (
      (h3.1[l0]? = some (0, 11)) ∧
      ∀ h4 : pm_H, h4 = si h3 l0 19 ((gi h3 l0 19) + 1) →
      if 0 ≤ l2 then (
        ci G d m_X12_selectOf [.ref l0, .int l1, .int l2] h4 fun r5 h6 =>
        if 0 ≤ r5 then (
          Wp G (m_X12_steps, d + 1, 0, 0, post) (0, 0) 52 [.ref l0, .int l1, .null, .int r5, .int 0, .int 0, .null, .null] [] h6
        ) else (
          post (some (.int (-1))) h6
        )
      ) else (
        post (some (.int (-1))) h4
      )
    )) :
    Wp G (m_X12_steps, d + 1, 0, 0, post) (0, 0) 0 [.ref l0, .int l1, .int l2, .null, .null, .null, .null, .null] [] h := by
  refine w_aload_n dX12_steps_0 rfl ?_
  refine w_iconst (v := 0) dX12_steps_1 rfl ?_
  obtain ⟨e1, w⟩ := w
  refine w_puti dX12_steps_2 lk_RX12_1 e1 rfl (Or.inl rfl) ?_
  have w := w _ rfl
  refine w_aload_n dX12_steps_5 rfl ?_
  refine w_iload_n dX12_steps_6 rfl ?_
  refine w_callV (As := [.int l1]) (st := []) dX12_steps_7 mt_X12_isHeap g_1691 g_1693 g_100 rfl e1 rfl rfl (Nat.le_of_ble_eq_true rfl) (Nat.le_refl _) ⟨Nat.le_refl _, Nat.le_refl _⟩ w ?_
  rintro v h3 ⟨r2, rfl, w⟩
  refine w_if_ne (tgt := 15) dX12_steps_10 rfl (fun c => ?_) (fun c => ?_)
  · rw [if_neg c] at w
    refine w_aload_n dX12_steps_15 rfl ?_
    refine w_dup dX12_steps_16 rfl ?_
    obtain ⟨e1, w⟩ := w
    refine w_geti dX12_steps_17 lk_RX12_292 e1 rfl ?_
    refine w_iconst (v := 1) dX12_steps_20 rfl ?_
    refine w_iadd dX12_steps_21 ?_
    refine w_puti dX12_steps_22 lk_RX12_292 e1 rfl (Or.inl rfl) ?_
    have w := w _ rfl
    refine w_iload_n dX12_steps_25 rfl ?_
    refine w_if_ge (tgt := 33) dX12_steps_26 rfl (fun c => ?_) (fun c => ?_)
    · rw [if_pos c] at w
      refine w_aload_n dX12_steps_33 rfl ?_
      refine w_iload_n dX12_steps_34 rfl ?_
      refine w_iload_n dX12_steps_35 rfl ?_
      refine w_callV (As := [.int l1, .int l2]) (st := []) dX12_steps_36 mt_X12_selectOf g_1850 g_1852 g_123 rfl e1 rfl rfl (Nat.le_of_ble_eq_true rfl) (Nat.le_refl _) ⟨Nat.le_refl _, Nat.le_refl _⟩ w ?_
      rintro v h6 ⟨r5, rfl, w⟩
      refine v_istore_n (l' := [.ref l0, .int l1, .int l2, .int r5, .null, .null, .null, .null]) dX12_steps_39 (Nat.le_of_ble_eq_true rfl) rfl ?_
      refine w_iload_n dX12_steps_40 rfl ?_
      refine w_if_ge (tgt := 46) dX12_steps_41 rfl (fun c => ?_) (fun c => ?_)
      · rw [if_pos c] at w
        refine w_iconst (v := 0) dX12_steps_46 rfl ?_
        refine v_istore (l' := [.ref l0, .int l1, .int l2, .int r5, .int 0, .null, .null, .null]) dX12_steps_47 (Nat.le_of_ble_eq_true rfl) rfl ?_
        refine w_iconst (v := 0) dX12_steps_49 rfl ?_
        refine v_istore (l' := [.ref l0, .int l1, .int l2, .int r5, .int 0, .int 0, .null, .null]) dX12_steps_50 (Nat.le_of_ble_eq_true rfl) rfl ?_
        exact w_drop (l' := [.ref l0, .int l1, .null, .int r5, .int 0, .int 0, .null, .null]) ⟨Or.inr rfl, Or.inr rfl, Or.inl rfl, Or.inr rfl, Or.inr rfl, Or.inr rfl, Or.inl rfl, Or.inl rfl, trivial⟩ w
      · rw [if_neg c] at w
        refine w_iconst (v := (-1)) dX12_steps_44 rfl ?_
        exact w_ireturn dX12_steps_45 rfl rfl ⟨Nat.le_refl _, Nat.le_refl _⟩ w
    · rw [if_neg c] at w
      refine w_iconst (v := (-1)) dX12_steps_29 rfl ?_
      refine w_goto (tgt := 39) dX12_steps_30 rfl ?_
      refine v_istore_n (l' := [.ref l0, .int l1, .int l2, .int (-1), .null, .null, .null, .null]) dX12_steps_39 (Nat.le_of_ble_eq_true rfl) rfl ?_
      refine w_iload_n dX12_steps_40 rfl ?_
      refine w_if_ge (tgt := 46) dX12_steps_41 rfl (fun c => ?_) (fun c => ?_)
      · exact absurd c (by decide)
      · refine w_iconst (v := (-1)) dX12_steps_44 rfl ?_
        exact w_ireturn dX12_steps_45 rfl rfl ⟨Nat.le_refl _, Nat.le_refl _⟩ w
  · rw [if_pos c] at w
    refine w_iconst (v := (-1)) dX12_steps_13 rfl ?_
    exact w_ireturn dX12_steps_14 rfl rfl ⟨Nat.le_refl _, Nat.le_refl _⟩ w
set_option maxRecDepth 20000 in
set_option maxHeartbeats 4000000 in
theorem x_X12_steps_52 {G : pm_G} {d : Nat} {post : pm_PT} {h : pm_H} {l0 : Nat} {l1 : Int32} {l3 : Int32} {l4 : Int32} {l5 : Int32} (w :
    (h.1[l0]? = some (0, 11)) ∧
    ci G d m_X12_items [.ref l0] h fun r1 h2 =>
    if r1 ≤ l5 then (
      (h2.1[l0]? = some (0, 11)) ∧
      ci G d m_X12_splitOfSome [.ref l0, .int l4] h2 fun r3 h4 =>
      Wp G (m_X12_steps, d + 1, 0, 0, post) (0, 0) 106 [.ref l0, .null, .null, .int l3, .int l4, .int 1, .int r3, .null] [] h4
    ) else (
      (h2.1[l0]? = some (0, 11)) ∧
      ∃ n5 : Nat, h2.1[gp h2 l0 17]? = some (1, n5) ∧
      (vp_in (240 + l5) n5) ∧
      if (gi h2 (gp h2 l0 17) (240 + l5 : Int32).toNatClampNeg) = l1 then (
        Wp G (m_X12_steps, d + 1, 0, 0, post) (0, 0) 52 [.ref l0, .int l1, .null, .int l3, .int (l4 ||| ((1 : Int32) <<< (l5 &&& 31))), .int (l5 + 1), .null, .null] [] h2
      ) else (
        Wp G (m_X12_steps, d + 1, 0, 0, post) (0, 0) 52 [.ref l0, .int l1, .null, .int l3, .int (l4 ||| 0), .int (l5 + 1), .null, .null] [] h2
      )
    )) :
    Wp G (m_X12_steps, d + 1, 0, 0, post) (0, 0) 52 [.ref l0, .int l1, .null, .int l3, .int l4, .int l5, .null, .null] [] h := by
  refine w_iload dX12_steps_52 rfl ?_
  refine w_aload_n dX12_steps_54 rfl ?_
  obtain ⟨e1, w⟩ := w
  refine w_callV (As := []) (st := [.int l5]) dX12_steps_55 mt_X12_items g_1363 g_1365 g_52 rfl e1 rfl rfl (Nat.le_of_ble_eq_true rfl) (Nat.le_refl _) ⟨Nat.le_refl _, Nat.le_refl _⟩ w ?_
  rintro v h2 ⟨r1, rfl, w⟩
  refine w_ic_ge (tgt := 95) dX12_steps_58 rfl (fun c => ?_) (fun c => ?_)
  · rw [if_pos c] at w
    refine w_iconst (v := 1) dX12_steps_95 rfl ?_
    refine v_istore (l' := [.ref l0, .int l1, .null, .int l3, .int l4, .int 1, .null, .null]) dX12_steps_96 (Nat.le_of_ble_eq_true rfl) rfl ?_
    refine w_aload_n dX12_steps_98 rfl ?_
    refine w_iload dX12_steps_99 rfl ?_
    obtain ⟨e1, w⟩ := w
    refine w_callV (As := [.int l4]) (st := []) dX12_steps_101 mt_X12_splitOfSome g_1866 g_1868 g_125 rfl e1 rfl rfl (Nat.le_of_ble_eq_true rfl) (Nat.le_refl _) ⟨Nat.le_refl _, Nat.le_refl _⟩ w ?_
    rintro v h4 ⟨r3, rfl, w⟩
    refine v_istore (l' := [.ref l0, .int l1, .null, .int l3, .int l4, .int 1, .int r3, .null]) dX12_steps_104 (Nat.le_of_ble_eq_true rfl) rfl ?_
    exact w_drop (l' := [.ref l0, .null, .null, .int l3, .int l4, .int 1, .int r3, .null]) ⟨Or.inr rfl, Or.inl rfl, Or.inl rfl, Or.inr rfl, Or.inr rfl, Or.inr rfl, Or.inr rfl, Or.inl rfl, trivial⟩ w
  · rw [if_neg c] at w
    refine w_iload dX12_steps_61 rfl ?_
    refine w_aload_n dX12_steps_63 rfl ?_
    obtain ⟨e1, w⟩ := w
    refine w_getp dX12_steps_64 lk_RX12_97 e1 rfl ?_
    refine w_sipush (v := 240) dX12_steps_67 rfl ?_
    refine w_iload dX12_steps_70 rfl ?_
    refine w_iadd dX12_steps_72 ?_
    obtain ⟨n5, ln5, w⟩ := w
    obtain ⟨e3, w⟩ := w
    refine w_iald dX12_steps_73 ln5 e3 ?_
    refine w_iload_n dX12_steps_74 rfl ?_
    refine w_ic_ne (tgt := 85) dX12_steps_75 rfl (fun c => ?_) (fun c => ?_)
    · rw [if_neg c] at w
      refine w_iconst (v := 0) dX12_steps_85 rfl ?_
      refine w_ior dX12_steps_86 ?_
      refine v_istore (l' := [.ref l0, .int l1, .null, .int l3, .int (l4 ||| 0), .int l5, .null, .null]) dX12_steps_87 (Nat.le_of_ble_eq_true rfl) rfl ?_
      refine v_iinc (l' := [.ref l0, .int l1, .null, .int l3, .int (l4 ||| 0), .int (l5 + 1), .null, .null]) (v := l5 + 1) dX12_steps_89 rfl rfl (Nat.le_of_ble_eq_true rfl) rfl ?_
      refine w_goto (tgt := 52) dX12_steps_92 rfl ?_
      exact w
    · rw [if_pos c] at w
      refine w_iconst (v := 1) dX12_steps_78 rfl ?_
      refine w_iload dX12_steps_79 rfl ?_
      refine w_ishl dX12_steps_81 ?_
      refine w_goto (tgt := 86) dX12_steps_82 rfl ?_
      refine w_ior dX12_steps_86 ?_
      refine v_istore (l' := [.ref l0, .int l1, .null, .int l3, .int (l4 ||| ((1 : Int32) <<< (l5 &&& 31))), .int l5, .null, .null]) dX12_steps_87 (Nat.le_of_ble_eq_true rfl) rfl ?_
      refine v_iinc (l' := [.ref l0, .int l1, .null, .int l3, .int (l4 ||| ((1 : Int32) <<< (l5 &&& 31))), .int (l5 + 1), .null, .null]) (v := l5 + 1) dX12_steps_89 rfl rfl (Nat.le_of_ble_eq_true rfl) rfl ?_
      refine w_goto (tgt := 52) dX12_steps_92 rfl ?_
      exact w
set_option maxRecDepth 20000 in
set_option maxHeartbeats 4000000 in
theorem x_X12_steps_106 {G : pm_G} {d : Nat} {post : pm_PT} {h : pm_H} {l0 : Nat} {l3 : Int32} {l4 : Int32} {l5 : Int32} {l6 : Int32} (w :
    if l6 = l3 then (
      post (some (.int l5)) h
    ) else (
      Wp G (m_X12_steps, d + 1, 0, 0, post) (0, 0) 115 [.ref l0, .null, .null, .int l3, .int l4, .int l5, .int l6, .int 0] [] h
    )) :
    Wp G (m_X12_steps, d + 1, 0, 0, post) (0, 0) 106 [.ref l0, .null, .null, .int l3, .int l4, .int l5, .int l6, .null] [] h := by
  refine w_iload dX12_steps_106 rfl ?_
  refine w_iload_n dX12_steps_108 rfl ?_
  refine w_ic_eq (tgt := 184) dX12_steps_109 rfl (fun c => ?_) (fun c => ?_)
  · rw [if_pos c] at w
    refine w_iload dX12_steps_184 rfl ?_
    exact w_ireturn dX12_steps_186 rfl rfl ⟨Nat.le_refl _, Nat.le_refl _⟩ w
  · rw [if_neg c] at w
    refine w_iconst (v := 0) dX12_steps_112 rfl ?_
    refine v_istore (l' := [.ref l0, .null, .null, .int l3, .int l4, .int l5, .int l6, .int 0]) dX12_steps_113 (Nat.le_of_ble_eq_true rfl) rfl ?_
    exact w
set_option maxRecDepth 20000 in
set_option maxHeartbeats 4000000 in
theorem x_X12_steps_115 {G : pm_G} {d : Nat} {post : pm_PT} {h : pm_H} {l0 : Nat} {l3 : Int32} {l4 : Int32} {l5 : Int32} {l6 : Int32} {l7 : Int32} (w :
    (h.1[l0]? = some (0, 11)) ∧
    ci G d m_X12_items [.ref l0] h fun r1 h2 =>
    if r1 ≤ l7 then (
      (h2.1[l0]? = some (0, 11)) ∧
      ci G d m_X12_splitOfSome [.ref l0, .int l4] h2 fun r3 h4 =>
      Wp G (m_X12_steps, d + 1, 0, 0, post) (0, 0) 106 [.ref l0, .null, .null, .int l3, .int l4, .int (l5 + 1), .int r3, .null] [] h4
    ) else (
      if l7 = l6 then (
        Wp G (m_X12_steps, d + 1, 0, 0, post) (0, 0) 115 [.ref l0, .null, .null, .int l3, .int (l4 &&& (((1 : Int32) <<< (l7 &&& 31)) ^^^ (-1))), .int l5, .int l6, .int (l7 + 1)] [] h2
      ) else (
        (h2.1[l0]? = some (0, 11)) ∧
        ci G d m_X12_isAhead [.ref l0, .int l7, .int l6] h2 fun r5 h6 =>
        (h6.1[l0]? = some (0, 11)) ∧
        ci G d m_X12_isAhead [.ref l0, .int l3, .int l6] h6 fun r7 h8 =>
        if r5 = r7 then (
          Wp G (m_X12_steps, d + 1, 0, 0, post) (0, 0) 115 [.ref l0, .null, .null, .int l3, .int (l4 &&& (-1)), .int l5, .int l6, .int (l7 + 1)] [] h8
        ) else (
          Wp G (m_X12_steps, d + 1, 0, 0, post) (0, 0) 115 [.ref l0, .null, .null, .int l3, .int (l4 &&& (((1 : Int32) <<< (l7 &&& 31)) ^^^ (-1))), .int l5, .int l6, .int (l7 + 1)] [] h8
        )
      )
    )) :
    Wp G (m_X12_steps, d + 1, 0, 0, post) (0, 0) 115 [.ref l0, .null, .null, .int l3, .int l4, .int l5, .int l6, .int l7] [] h := by
  refine w_iload dX12_steps_115 rfl ?_
  refine w_aload_n dX12_steps_117 rfl ?_
  obtain ⟨e1, w⟩ := w
  refine w_callV (As := []) (st := [.int l7]) dX12_steps_118 mt_X12_items g_1363 g_1365 g_52 rfl e1 rfl rfl (Nat.le_of_ble_eq_true rfl) (Nat.le_refl _) ⟨Nat.le_refl _, Nat.le_refl _⟩ w ?_
  rintro v h2 ⟨r1, rfl, w⟩
  refine w_ic_ge (tgt := 170) dX12_steps_121 rfl (fun c => ?_) (fun c => ?_)
  · rw [if_pos c] at w
    refine v_iinc (l' := [.ref l0, .null, .null, .int l3, .int l4, .int (l5 + 1), .int l6, .int l7]) (v := l5 + 1) dX12_steps_170 rfl rfl (Nat.le_of_ble_eq_true rfl) rfl ?_
    refine w_aload_n dX12_steps_173 rfl ?_
    refine w_iload dX12_steps_174 rfl ?_
    obtain ⟨e1, w⟩ := w
    refine w_callV (As := [.int l4]) (st := []) dX12_steps_176 mt_X12_splitOfSome g_1866 g_1868 g_125 rfl e1 rfl rfl (Nat.le_of_ble_eq_true rfl) (Nat.le_refl _) ⟨Nat.le_refl _, Nat.le_refl _⟩ w ?_
    rintro v h4 ⟨r3, rfl, w⟩
    refine v_istore (l' := [.ref l0, .null, .null, .int l3, .int l4, .int (l5 + 1), .int r3, .int l7]) dX12_steps_179 (Nat.le_of_ble_eq_true rfl) rfl ?_
    refine w_goto (tgt := 106) dX12_steps_181 rfl ?_
    exact w_drop (l' := [.ref l0, .null, .null, .int l3, .int l4, .int (l5 + 1), .int r3, .null]) ⟨Or.inr rfl, Or.inl rfl, Or.inl rfl, Or.inr rfl, Or.inr rfl, Or.inr rfl, Or.inr rfl, Or.inl rfl, trivial⟩ w
  · rw [if_neg c] at w
    refine w_iload dX12_steps_124 rfl ?_
    refine w_iload dX12_steps_126 rfl ?_
    refine w_iload dX12_steps_128 rfl ?_
    refine w_ic_eq (tgt := 151) dX12_steps_130 rfl (fun c => ?_) (fun c => ?_)
    · rw [if_pos c] at w
      refine w_iconst (v := 1) dX12_steps_151 rfl ?_
      refine w_iload dX12_steps_152 rfl ?_
      refine w_ishl dX12_steps_154 ?_
      refine w_iconst (v := (-1)) dX12_steps_155 rfl ?_
      refine w_ixor dX12_steps_156 ?_
      refine w_goto (tgt := 161) dX12_steps_157 rfl ?_
      refine w_iand dX12_steps_161 ?_
      refine v_istore (l' := [.ref l0, .null, .null, .int l3, .int (l4 &&& (((1 : Int32) <<< (l7 &&& 31)) ^^^ (-1))), .int l5, .int l6, .int l7]) dX12_steps_162 (Nat.le_of_ble_eq_true rfl) rfl ?_
      refine v_iinc (l' := [.ref l0, .null, .null, .int l3, .int (l4 &&& (((1 : Int32) <<< (l7 &&& 31)) ^^^ (-1))), .int l5, .int l6, .int (l7 + 1)]) (v := l7 + 1) dX12_steps_164 rfl rfl (Nat.le_of_ble_eq_true rfl) rfl ?_
      refine w_goto (tgt := 115) dX12_steps_167 rfl ?_
      exact w
    · rw [if_neg c] at w
      refine w_aload_n dX12_steps_133 rfl ?_
      refine w_iload dX12_steps_134 rfl ?_
      refine w_iload dX12_steps_136 rfl ?_
      obtain ⟨e1, w⟩ := w
      refine w_callV (As := [.int l7, .int l6]) (st := [.int l4]) dX12_steps_138 mt_X12_isAhead g_1834 g_1836 g_122 rfl e1 rfl rfl (Nat.le_of_ble_eq_true rfl) (Nat.le_refl _) ⟨Nat.le_refl _, Nat.le_refl _⟩ w ?_
      rintro v h6 ⟨r5, rfl, w⟩
      refine w_aload_n dX12_steps_141 rfl ?_
      refine w_iload_n dX12_steps_142 rfl ?_
      refine w_iload dX12_steps_143 rfl ?_
      obtain ⟨e1, w⟩ := w
      refine w_callV (As := [.int l3, .int l6]) (st := [.int r5, .int l4]) dX12_steps_145 mt_X12_isAhead g_1834 g_1836 g_122 rfl e1 rfl rfl (Nat.le_of_ble_eq_true rfl) (Nat.le_refl _) ⟨Nat.le_refl _, Nat.le_refl _⟩ w ?_
      rintro v h8 ⟨r7, rfl, w⟩
      refine w_ic_eq (tgt := 160) dX12_steps_148 rfl (fun c => ?_) (fun c => ?_)
      · rw [if_pos c] at w
        refine w_iconst (v := (-1)) dX12_steps_160 rfl ?_
        refine w_iand dX12_steps_161 ?_
        refine v_istore (l' := [.ref l0, .null, .null, .int l3, .int (l4 &&& (-1)), .int l5, .int l6, .int l7]) dX12_steps_162 (Nat.le_of_ble_eq_true rfl) rfl ?_
        refine v_iinc (l' := [.ref l0, .null, .null, .int l3, .int (l4 &&& (-1)), .int l5, .int l6, .int (l7 + 1)]) (v := l7 + 1) dX12_steps_164 rfl rfl (Nat.le_of_ble_eq_true rfl) rfl ?_
        refine w_goto (tgt := 115) dX12_steps_167 rfl ?_
        exact w
      · rw [if_neg c] at w
        refine w_iconst (v := 1) dX12_steps_151 rfl ?_
        refine w_iload dX12_steps_152 rfl ?_
        refine w_ishl dX12_steps_154 ?_
        refine w_iconst (v := (-1)) dX12_steps_155 rfl ?_
        refine w_ixor dX12_steps_156 ?_
        refine w_goto (tgt := 161) dX12_steps_157 rfl ?_
        refine w_iand dX12_steps_161 ?_
        refine v_istore (l' := [.ref l0, .null, .null, .int l3, .int (l4 &&& (((1 : Int32) <<< (l7 &&& 31)) ^^^ (-1))), .int l5, .int l6, .int l7]) dX12_steps_162 (Nat.le_of_ble_eq_true rfl) rfl ?_
        refine v_iinc (l' := [.ref l0, .null, .null, .int l3, .int (l4 &&& (((1 : Int32) <<< (l7 &&& 31)) ^^^ (-1))), .int l5, .int l6, .int (l7 + 1)]) (v := l7 + 1) dX12_steps_164 rfl rfl (Nat.le_of_ble_eq_true rfl) rfl ?_
        refine w_goto (tgt := 115) dX12_steps_167 rfl ?_
        exact w
set_option maxRecDepth 20000 in
set_option maxHeartbeats 4000000 in
theorem x_X12_splitOfSome {G : pm_G} {d : Nat} {post : pm_PT} {h : pm_H} {l0 : Nat} {l1 : Int32} (w :
    (h.1[l0]? = some (0, 11)) ∧
    cv G d m_X12_empties [.ref l0, .int 4140] h fun h2 =>
    Wp G (m_X12_splitOfSome, d + 1, 0, 0, post) (0, 0) 9 [.ref l0, .int l1, .int 0] [] h2) :
    Wp G (m_X12_splitOfSome, d + 1, 0, 0, post) (0, 0) 0 [.ref l0, .int l1, .null] [] h := by
  refine w_aload_n dX12_splitOfSome_0 rfl ?_
  refine w_sipush (v := 4140) dX12_splitOfSome_1 rfl ?_
  obtain ⟨e1, w⟩ := w
  refine w_callV (As := [.int 4140]) (st := []) dX12_splitOfSome_4 mt_X12_empties g_1408 g_1410 g_56 rfl e1 rfl rfl (Nat.le_of_ble_eq_true rfl) (Nat.le_refl _) ⟨Nat.le_refl _, Nat.le_refl _⟩ w ?_
  rintro v h2 ⟨rfl, w⟩
  refine w_iconst (v := 0) dX12_splitOfSome_7 rfl ?_
  refine v_istore_n (l' := [.ref l0, .int l1, .int 0]) dX12_splitOfSome_8 (Nat.le_of_ble_eq_true rfl) rfl ?_
  exact w
set_option maxRecDepth 20000 in
set_option maxHeartbeats 4000000 in
theorem x_X12_splitOfSome_9 {G : pm_G} {d : Nat} {post : pm_PT} {h : pm_H} {l0 : Nat} {l1 : Int32} {l2 : Int32} (w :
    (h.1[l0]? = some (0, 11)) ∧
    ci G d m_X12_items [.ref l0] h fun r1 h2 =>
    if r1 ≤ l2 then (
      (h2.1[l0]? = some (0, 11)) ∧
      ci G d m_X12_comesOf [.ref l0, .int 4140, .int 0] h2 fun r3 h4 =>
      (h4.1[l0]? = some (0, 11)) ∧
      ci G d m_X12_splitOf [.ref l0, .int r3] h4 fun r5 h6 =>
      post (some (.int r5)) h6
    ) else (
      if ((l1 >>> (l2 &&& 31)) &&& 1) = 1 then (
        (h2.1[l0]? = some (0, 11)) ∧
        cv G d m_X12_puts [.ref l0, .int 4140, .int l2, .int 0] h2 fun h8 =>
        Wp G (m_X12_splitOfSome, d + 1, 0, 0, post) (0, 0) 9 [.ref l0, .int l1, .int (l2 + 1)] [] h8
      ) else (
        Wp G (m_X12_splitOfSome, d + 1, 0, 0, post) (0, 0) 9 [.ref l0, .int l1, .int (l2 + 1)] [] h2
      )
    )) :
    Wp G (m_X12_splitOfSome, d + 1, 0, 0, post) (0, 0) 9 [.ref l0, .int l1, .int l2] [] h := by
  refine w_iload_n dX12_splitOfSome_9 rfl ?_
  refine w_aload_n dX12_splitOfSome_10 rfl ?_
  obtain ⟨e1, w⟩ := w
  refine w_callV (As := []) (st := [.int l2]) dX12_splitOfSome_11 mt_X12_items g_1363 g_1365 g_52 rfl e1 rfl rfl (Nat.le_of_ble_eq_true rfl) (Nat.le_refl _) ⟨Nat.le_refl _, Nat.le_refl _⟩ w ?_
  rintro v h2 ⟨r1, rfl, w⟩
  refine w_ic_ge (tgt := 41) dX12_splitOfSome_14 rfl (fun c => ?_) (fun c => ?_)
  · rw [if_pos c] at w
    refine w_aload_n dX12_splitOfSome_41 rfl ?_
    refine w_aload_n dX12_splitOfSome_42 rfl ?_
    refine w_sipush (v := 4140) dX12_splitOfSome_43 rfl ?_
    refine w_iconst (v := 0) dX12_splitOfSome_46 rfl ?_
    obtain ⟨e1, w⟩ := w
    refine w_callV (As := [.int 4140, .int 0]) (st := [.ref l0]) dX12_splitOfSome_47 mt_X12_comesOf g_1818 g_1820 g_119 rfl e1 rfl rfl (Nat.le_of_ble_eq_true rfl) (Nat.le_refl _) ⟨Nat.le_refl _, Nat.le_refl _⟩ w ?_
    rintro v h4 ⟨r3, rfl, w⟩
    obtain ⟨e1, w⟩ := w
    refine w_callV (As := [.int r3]) (st := []) dX12_splitOfSome_50 mt_X12_splitOf g_1858 g_1860 g_124 rfl e1 rfl rfl (Nat.le_of_ble_eq_true rfl) (Nat.le_refl _) ⟨Nat.le_refl _, Nat.le_refl _⟩ w ?_
    rintro v h6 ⟨r5, rfl, w⟩
    exact w_ireturn dX12_splitOfSome_53 rfl rfl ⟨Nat.le_refl _, Nat.le_refl _⟩ w
  · rw [if_neg c] at w
    refine w_iload_n dX12_splitOfSome_17 rfl ?_
    refine w_iload_n dX12_splitOfSome_18 rfl ?_
    refine w_ishr dX12_splitOfSome_19 ?_
    refine w_iconst (v := 1) dX12_splitOfSome_20 rfl ?_
    refine w_iand dX12_splitOfSome_21 ?_
    refine w_iconst (v := 1) dX12_splitOfSome_22 rfl ?_
    refine w_ic_ne (tgt := 35) dX12_splitOfSome_23 rfl (fun c => ?_) (fun c => ?_)
    · rw [if_neg c] at w
      refine v_iinc (l' := [.ref l0, .int l1, .int (l2 + 1)]) (v := l2 + 1) dX12_splitOfSome_35 rfl rfl (Nat.le_of_ble_eq_true rfl) rfl ?_
      refine w_goto (tgt := 9) dX12_splitOfSome_38 rfl ?_
      exact w
    · rw [if_pos c] at w
      refine w_aload_n dX12_splitOfSome_26 rfl ?_
      refine w_sipush (v := 4140) dX12_splitOfSome_27 rfl ?_
      refine w_iload_n dX12_splitOfSome_30 rfl ?_
      refine w_iconst (v := 0) dX12_splitOfSome_31 rfl ?_
      obtain ⟨e1, w⟩ := w
      refine w_callV (As := [.int 4140, .int l2, .int 0]) (st := []) dX12_splitOfSome_32 mt_X12_puts g_1412 g_1414 g_57 rfl e1 rfl rfl (Nat.le_of_ble_eq_true rfl) (Nat.le_refl _) ⟨Nat.le_refl _, Nat.le_refl _⟩ w ?_
      rintro v h8 ⟨rfl, w⟩
      refine v_iinc (l' := [.ref l0, .int l1, .int (l2 + 1)]) (v := l2 + 1) dX12_splitOfSome_35 rfl rfl (Nat.le_of_ble_eq_true rfl) rfl ?_
      refine w_goto (tgt := 9) dX12_splitOfSome_38 rfl ?_
      exact w
set_option maxRecDepth 20000 in
set_option maxHeartbeats 4000000 in
theorem x_X12_worthOf {G : pm_G} {d : Nat} {post : pm_PT} {h : pm_H} {l0 : Nat} {l1 : Int32} (w :
    Wp G (m_X12_worthOf, d + 1, 0, 0, post) (0, 0) 4 [.ref l0, .int l1, .int 0, .int 0] [] h) :
    Wp G (m_X12_worthOf, d + 1, 0, 0, post) (0, 0) 0 [.ref l0, .int l1, .null, .null] [] h := by
  refine w_iconst (v := 0) dX12_worthOf_0 rfl ?_
  refine v_istore_n (l' := [.ref l0, .int l1, .int 0, .null]) dX12_worthOf_1 (Nat.le_of_ble_eq_true rfl) rfl ?_
  refine w_iconst (v := 0) dX12_worthOf_2 rfl ?_
  refine v_istore_n (l' := [.ref l0, .int l1, .int 0, .int 0]) dX12_worthOf_3 (Nat.le_of_ble_eq_true rfl) rfl ?_
  exact w
set_option maxRecDepth 20000 in
set_option maxHeartbeats 4000000 in
theorem x_X12_worthOf_4 {G : pm_G} {d : Nat} {post : pm_PT} {h : pm_H} {l0 : Nat} {l1 : Int32} {l2 : Int32} {l3 : Int32} (w :
    if l1 ≤ l3 then (
      post (some (.int l2)) h
    ) else (
      (h.1[l0]? = some (0, 11)) ∧
      ∃ n1 : Nat, h.1[gp h l0 22]? = some (1, n1) ∧
      (vp_in l3 n1) ∧
      ∃ n2 : Nat, h.1[gp h l0 21]? = some (1, n2) ∧
      (vp_in (gi h (gp h l0 22) (l3 : Int32).toNatClampNeg) n2) ∧
      ci G d m_X12_adds [.int l2, .int (gi h (gp h l0 21) (gi h (gp h l0 22) (l3 : Int32).toNatClampNeg : Int32).toNatClampNeg)] h fun r3 h4 =>
      Wp G (m_X12_worthOf, d + 1, 0, 0, post) (0, 0) 4 [.ref l0, .int l1, .int r3, .int (l3 + 1)] [] h4
    )) :
    Wp G (m_X12_worthOf, d + 1, 0, 0, post) (0, 0) 4 [.ref l0, .int l1, .int l2, .int l3] [] h := by
  refine w_iload_n dX12_worthOf_4 rfl ?_
  refine w_iload_n dX12_worthOf_5 rfl ?_
  refine w_ic_ge (tgt := 31) dX12_worthOf_6 rfl (fun c => ?_) (fun c => ?_)
  · rw [if_pos c] at w
    refine w_iload_n dX12_worthOf_31 rfl ?_
    exact w_ireturn dX12_worthOf_32 rfl rfl ⟨Nat.le_refl _, Nat.le_refl _⟩ w
  · rw [if_neg c] at w
    refine w_iload_n dX12_worthOf_9 rfl ?_
    refine w_aload_n dX12_worthOf_10 rfl ?_
    obtain ⟨e1, w⟩ := w
    refine w_getp dX12_worthOf_11 lk_RX12_104 e1 rfl ?_
    refine w_aload_n dX12_worthOf_14 rfl ?_
    refine w_getp dX12_worthOf_15 lk_RX12_107 e1 rfl ?_
    refine w_iload_n dX12_worthOf_18 rfl ?_
    obtain ⟨n1, ln1, w⟩ := w
    obtain ⟨e3, w⟩ := w
    refine w_iald dX12_worthOf_19 ln1 e3 ?_
    obtain ⟨n2, ln2, w⟩ := w
    obtain ⟨e5, w⟩ := w
    refine w_iald dX12_worthOf_20 ln2 e5 ?_
    refine w_callS (As := [.int l2, .int (gi h (gp h l0 21) (gi h (gp h l0 22) (l3 : Int32).toNatClampNeg : Int32).toNatClampNeg)]) (st := []) dX12_worthOf_21 mt_X12_adds g_1400 g_1401 rfl rfl (Nat.le_of_ble_eq_true rfl) (Nat.le_refl _) ⟨Nat.le_refl _, Nat.le_refl _⟩ w ?_
    rintro v h4 ⟨r3, rfl, w⟩
    refine v_istore_n (l' := [.ref l0, .int l1, .int r3, .int l3]) dX12_worthOf_24 (Nat.le_of_ble_eq_true rfl) rfl ?_
    refine v_iinc (l' := [.ref l0, .int l1, .int r3, .int (l3 + 1)]) (v := l3 + 1) dX12_worthOf_25 rfl rfl (Nat.le_of_ble_eq_true rfl) rfl ?_
    refine w_goto (tgt := 4) dX12_worthOf_28 rfl ?_
    exact w
set_option maxRecDepth 20000 in
set_option maxHeartbeats 4000000 in
theorem x_X12_worth {G : pm_G} {d : Nat} {post : pm_PT} {h : pm_H} {l0 : Nat} {l1 : Int32} (w :
    (h.1[l0]? = some (0, 11)) ∧
    ∀ h1 : pm_H, h1 = si h l0 0 0 →
    ci G d m_X12_isHeap [.ref l0, .int l1] h1 fun r2 h3 =>
    if r2 = 0 then (
      post (some (.int (-1))) h3
    ) else (
      (h3.1[l0]? = some (0, 11)) ∧
      ∀ h4 : pm_H, h4 = si h3 l0 19 ((gi h3 l0 19) + 1) →
      ci G d m_X12_comesOf [.ref l0, .int 0, .int l1] h4 fun r5 h6 =>
      (h6.1[l0]? = some (0, 11)) ∧
      ci G d m_X12_worthOf [.ref l0, .int r5] h6 fun r7 h8 =>
      post (some (.int r7)) h8
    )) :
    Wp G (m_X12_worth, d + 1, 0, 0, post) (0, 0) 0 [.ref l0, .int l1] [] h := by
  refine w_aload_n dX12_worth_0 rfl ?_
  refine w_iconst (v := 0) dX12_worth_1 rfl ?_
  obtain ⟨e1, w⟩ := w
  refine w_puti dX12_worth_2 lk_RX12_1 e1 rfl (Or.inl rfl) ?_
  have w := w _ rfl
  refine w_aload_n dX12_worth_5 rfl ?_
  refine w_iload_n dX12_worth_6 rfl ?_
  refine w_callV (As := [.int l1]) (st := []) dX12_worth_7 mt_X12_isHeap g_1691 g_1693 g_100 rfl e1 rfl rfl (Nat.le_of_ble_eq_true rfl) (Nat.le_refl _) ⟨Nat.le_refl _, Nat.le_refl _⟩ w ?_
  rintro v h3 ⟨r2, rfl, w⟩
  refine w_if_ne (tgt := 15) dX12_worth_10 rfl (fun c => ?_) (fun c => ?_)
  · rw [if_neg c] at w
    refine w_aload_n dX12_worth_15 rfl ?_
    refine w_dup dX12_worth_16 rfl ?_
    obtain ⟨e1, w⟩ := w
    refine w_geti dX12_worth_17 lk_RX12_292 e1 rfl ?_
    refine w_iconst (v := 1) dX12_worth_20 rfl ?_
    refine w_iadd dX12_worth_21 ?_
    refine w_puti dX12_worth_22 lk_RX12_292 e1 rfl (Or.inl rfl) ?_
    have w := w _ rfl
    refine w_aload_n dX12_worth_25 rfl ?_
    refine w_aload_n dX12_worth_26 rfl ?_
    refine w_iconst (v := 0) dX12_worth_27 rfl ?_
    refine w_iload_n dX12_worth_28 rfl ?_
    refine w_callV (As := [.int 0, .int l1]) (st := [.ref l0]) dX12_worth_29 mt_X12_comesOf g_1818 g_1820 g_119 rfl e1 rfl rfl (Nat.le_of_ble_eq_true rfl) (Nat.le_refl _) ⟨Nat.le_refl _, Nat.le_refl _⟩ w ?_
    rintro v h6 ⟨r5, rfl, w⟩
    obtain ⟨e1, w⟩ := w
    refine w_callV (As := [.int r5]) (st := []) dX12_worth_32 mt_X12_worthOf g_1874 g_1876 g_126 rfl e1 rfl rfl (Nat.le_of_ble_eq_true rfl) (Nat.le_refl _) ⟨Nat.le_refl _, Nat.le_refl _⟩ w ?_
    rintro v h8 ⟨r7, rfl, w⟩
    exact w_ireturn dX12_worth_35 rfl rfl ⟨Nat.le_refl _, Nat.le_refl _⟩ w
  · rw [if_pos c] at w
    refine w_iconst (v := (-1)) dX12_worth_13 rfl ?_
    exact w_ireturn dX12_worth_14 rfl rfl ⟨Nat.le_refl _, Nat.le_refl _⟩ w
set_option maxRecDepth 20000 in
set_option maxHeartbeats 4000000 in
theorem x_X12_mean {G : pm_G} {d : Nat} {post : pm_PT} {h : pm_H} {l0 : Nat} {l1 : Int32} (w :
    (h.1[l0]? = some (0, 11)) ∧
    ∀ h1 : pm_H, h1 = si h l0 0 0 →
    ci G d m_X12_isHeap [.ref l0, .int l1] h1 fun r2 h3 =>
    if r2 = 0 then (
      post (some (.int (-1))) h3
    ) else (
      (h3.1[l0]? = some (0, 11)) ∧
      ∀ h4 : pm_H, h4 = si h3 l0 19 ((gi h3 l0 19) + 1) →
      ci G d m_X12_comesOf [.ref l0, .int 0, .int l1] h4 fun r5 h6 =>
      if r5 = 0 then (
        post (some (.int 0)) h6
      ) else (
        (h6.1[l0]? = some (0, 11)) ∧
        ci G d m_X12_worthOf [.ref l0, .int r5] h6 fun r7 h8 =>
        ci G d m_X12_ofWhole [.int r5] h8 fun r9 h10 =>
        ci G d m_X12_divides [.int r7, .int r9] h10 fun r11 h12 =>
        post (some (.int r11)) h12
      )
    )) :
    Wp G (m_X12_mean, d + 1, 0, 0, post) (0, 0) 0 [.ref l0, .int l1, .null] [] h := by
  refine w_aload_n dX12_mean_0 rfl ?_
  refine w_iconst (v := 0) dX12_mean_1 rfl ?_
  obtain ⟨e1, w⟩ := w
  refine w_puti dX12_mean_2 lk_RX12_1 e1 rfl (Or.inl rfl) ?_
  have w := w _ rfl
  refine w_aload_n dX12_mean_5 rfl ?_
  refine w_iload_n dX12_mean_6 rfl ?_
  refine w_callV (As := [.int l1]) (st := []) dX12_mean_7 mt_X12_isHeap g_1691 g_1693 g_100 rfl e1 rfl rfl (Nat.le_of_ble_eq_true rfl) (Nat.le_refl _) ⟨Nat.le_refl _, Nat.le_refl _⟩ w ?_
  rintro v h3 ⟨r2, rfl, w⟩
  refine w_if_ne (tgt := 15) dX12_mean_10 rfl (fun c => ?_) (fun c => ?_)
  · rw [if_neg c] at w
    refine w_aload_n dX12_mean_15 rfl ?_
    refine w_dup dX12_mean_16 rfl ?_
    obtain ⟨e1, w⟩ := w
    refine w_geti dX12_mean_17 lk_RX12_292 e1 rfl ?_
    refine w_iconst (v := 1) dX12_mean_20 rfl ?_
    refine w_iadd dX12_mean_21 ?_
    refine w_puti dX12_mean_22 lk_RX12_292 e1 rfl (Or.inl rfl) ?_
    have w := w _ rfl
    refine w_aload_n dX12_mean_25 rfl ?_
    refine w_iconst (v := 0) dX12_mean_26 rfl ?_
    refine w_iload_n dX12_mean_27 rfl ?_
    refine w_callV (As := [.int 0, .int l1]) (st := []) dX12_mean_28 mt_X12_comesOf g_1818 g_1820 g_119 rfl e1 rfl rfl (Nat.le_of_ble_eq_true rfl) (Nat.le_refl _) ⟨Nat.le_refl _, Nat.le_refl _⟩ w ?_
    rintro v h6 ⟨r5, rfl, w⟩
    refine v_istore_n (l' := [.ref l0, .int l1, .int r5]) dX12_mean_31 (Nat.le_of_ble_eq_true rfl) rfl ?_
    refine w_iload_n dX12_mean_32 rfl ?_
    refine w_if_ne (tgt := 40) dX12_mean_33 rfl (fun c => ?_) (fun c => ?_)
    · rw [if_neg c] at w
      refine w_aload_n dX12_mean_40 rfl ?_
      refine w_iload_n dX12_mean_41 rfl ?_
      obtain ⟨e1, w⟩ := w
      refine w_callV (As := [.int r5]) (st := []) dX12_mean_42 mt_X12_worthOf g_1874 g_1876 g_126 rfl e1 rfl rfl (Nat.le_of_ble_eq_true rfl) (Nat.le_refl _) ⟨Nat.le_refl _, Nat.le_refl _⟩ w ?_
      rintro v h8 ⟨r7, rfl, w⟩
      refine w_iload_n dX12_mean_45 rfl ?_
      refine w_callS (As := [.int r5]) (st := [.int r7]) dX12_mean_46 mt_X12_ofWhole g_1375 g_1376 rfl rfl (Nat.le_of_ble_eq_true rfl) (Nat.le_refl _) ⟨Nat.le_refl _, Nat.le_refl _⟩ w ?_
      rintro v h10 ⟨r9, rfl, w⟩
      refine w_callS (As := [.int r7, .int r9]) (st := []) dX12_mean_49 mt_X12_divides g_1385 g_1386 rfl rfl (Nat.le_of_ble_eq_true rfl) (Nat.le_refl _) ⟨Nat.le_refl _, Nat.le_refl _⟩ w ?_
      rintro v h12 ⟨r11, rfl, w⟩
      exact w_ireturn dX12_mean_52 rfl rfl ⟨Nat.le_refl _, Nat.le_refl _⟩ w
    · rw [if_pos c] at w
      refine w_iconst (v := 0) dX12_mean_36 rfl ?_
      refine w_goto (tgt := 52) dX12_mean_37 rfl ?_
      exact w_ireturn dX12_mean_52 rfl rfl ⟨Nat.le_refl _, Nat.le_refl _⟩ w
  · rw [if_pos c] at w
    refine w_iconst (v := (-1)) dX12_mean_13 rfl ?_
    exact w_ireturn dX12_mean_14 rfl rfl ⟨Nat.le_refl _, Nat.le_refl _⟩ w
set_option maxRecDepth 20000 in
set_option maxHeartbeats 4000000 in
theorem x_X12_bits {G : pm_G} {d : Nat} {post : pm_PT} {h : pm_H} {l0 : Nat} {l1 : Int32} (w :
    (h.1[l0]? = some (0, 11)) ∧
    ∀ h1 : pm_H, h1 = si h l0 0 0 →
    ci G d m_X12_isItem [.ref l0, .int l1] h1 fun r2 h3 =>
    if r2 = 0 then (
      post (some (.int (-1))) h3
    ) else (
      (h3.1[l0]? = some (0, 11)) ∧
      ∃ n4 : Nat, h3.1[gp h3 l0 21]? = some (1, n4) ∧
      (vp_in l1 n4) ∧
      post (some (.int (gi h3 (gp h3 l0 21) (l1 : Int32).toNatClampNeg))) h3
    )) :
    Wp G (m_X12_bits, d + 1, 0, 0, post) (0, 0) 0 [.ref l0, .int l1] [] h := by
  refine w_aload_n dX12_bits_0 rfl ?_
  refine w_iconst (v := 0) dX12_bits_1 rfl ?_
  obtain ⟨e1, w⟩ := w
  refine w_puti dX12_bits_2 lk_RX12_1 e1 rfl (Or.inl rfl) ?_
  have w := w _ rfl
  refine w_aload_n dX12_bits_5 rfl ?_
  refine w_iload_n dX12_bits_6 rfl ?_
  refine w_callV (As := [.int l1]) (st := []) dX12_bits_7 mt_X12_isItem g_1687 g_1689 g_99 rfl e1 rfl rfl (Nat.le_of_ble_eq_true rfl) (Nat.le_refl _) ⟨Nat.le_refl _, Nat.le_refl _⟩ w ?_
  rintro v h3 ⟨r2, rfl, w⟩
  refine w_if_eq (tgt := 22) dX12_bits_10 rfl (fun c => ?_) (fun c => ?_)
  · rw [if_pos c] at w
    refine w_iconst (v := (-1)) dX12_bits_22 rfl ?_
    exact w_ireturn dX12_bits_23 rfl rfl ⟨Nat.le_refl _, Nat.le_refl _⟩ w
  · rw [if_neg c] at w
    refine w_aload_n dX12_bits_13 rfl ?_
    obtain ⟨e1, w⟩ := w
    refine w_getp dX12_bits_14 lk_RX12_104 e1 rfl ?_
    refine w_iload_n dX12_bits_17 rfl ?_
    obtain ⟨n4, ln4, w⟩ := w
    obtain ⟨e3, w⟩ := w
    refine w_iald dX12_bits_18 ln4 e3 ?_
    refine w_goto (tgt := 23) dX12_bits_19 rfl ?_
    exact w_ireturn dX12_bits_23 rfl rfl ⟨Nat.le_refl _, Nat.le_refl _⟩ w
set_option maxRecDepth 20000 in
set_option maxHeartbeats 4000000 in
theorem x_X12_thousand {G : pm_G} {d : Nat} {post : pm_PT} {h : pm_H} {l0 : Nat} {l1 : Int32} (w :
    (h.1[l0]? = some (0, 11)) ∧
    ∀ h1 : pm_H, h1 = si h l0 0 0 →
    ci G d m_X12_isItem [.ref l0, .int l1] h1 fun r2 h3 =>
    if r2 = 0 then (
      post (some (.int (-1))) h3
    ) else (
      (h3.1[l0]? = some (0, 11)) ∧
      ∃ n4 : Nat, h3.1[gp h3 l0 21]? = some (1, n4) ∧
      (vp_in l1 n4) ∧
      ci G d m_X12_ofWhole [.int 1000] h3 fun r5 h6 =>
      ci G d m_X12_multiplies [.int (gi h3 (gp h3 l0 21) (l1 : Int32).toNatClampNeg), .int r5] h6 fun r7 h8 =>
      ci G d m_X12_cutsOf [.int r7] h8 fun r9 h10 =>
      post (some (.int r9)) h10
    )) :
    Wp G (m_X12_thousand, d + 1, 0, 0, post) (0, 0) 0 [.ref l0, .int l1] [] h := by
  refine w_aload_n dX12_thousand_0 rfl ?_
  refine w_iconst (v := 0) dX12_thousand_1 rfl ?_
  obtain ⟨e1, w⟩ := w
  refine w_puti dX12_thousand_2 lk_RX12_1 e1 rfl (Or.inl rfl) ?_
  have w := w _ rfl
  refine w_aload_n dX12_thousand_5 rfl ?_
  refine w_iload_n dX12_thousand_6 rfl ?_
  refine w_callV (As := [.int l1]) (st := []) dX12_thousand_7 mt_X12_isItem g_1687 g_1689 g_99 rfl e1 rfl rfl (Nat.le_of_ble_eq_true rfl) (Nat.le_refl _) ⟨Nat.le_refl _, Nat.le_refl _⟩ w ?_
  rintro v h3 ⟨r2, rfl, w⟩
  refine w_if_eq (tgt := 34) dX12_thousand_10 rfl (fun c => ?_) (fun c => ?_)
  · rw [if_pos c] at w
    refine w_iconst (v := (-1)) dX12_thousand_34 rfl ?_
    exact w_ireturn dX12_thousand_35 rfl rfl ⟨Nat.le_refl _, Nat.le_refl _⟩ w
  · rw [if_neg c] at w
    refine w_aload_n dX12_thousand_13 rfl ?_
    obtain ⟨e1, w⟩ := w
    refine w_getp dX12_thousand_14 lk_RX12_104 e1 rfl ?_
    refine w_iload_n dX12_thousand_17 rfl ?_
    obtain ⟨n4, ln4, w⟩ := w
    obtain ⟨e3, w⟩ := w
    refine w_iald dX12_thousand_18 ln4 e3 ?_
    refine w_sipush (v := 1000) dX12_thousand_19 rfl ?_
    refine w_callS (As := [.int 1000]) (st := [.int (gi h3 (gp h3 l0 21) (l1 : Int32).toNatClampNeg)]) dX12_thousand_22 mt_X12_ofWhole g_1375 g_1376 rfl rfl (Nat.le_of_ble_eq_true rfl) (Nat.le_refl _) ⟨Nat.le_refl _, Nat.le_refl _⟩ w ?_
    rintro v h6 ⟨r5, rfl, w⟩
    refine w_callS (As := [.int (gi h3 (gp h3 l0 21) (l1 : Int32).toNatClampNeg), .int r5]) (st := []) dX12_thousand_25 mt_X12_multiplies g_1396 g_1397 rfl rfl (Nat.le_of_ble_eq_true rfl) (Nat.le_refl _) ⟨Nat.le_refl _, Nat.le_refl _⟩ w ?_
    rintro v h8 ⟨r7, rfl, w⟩
    refine w_callS (As := [.int r7]) (st := []) dX12_thousand_28 mt_X12_cutsOf g_1890 g_1891 rfl rfl (Nat.le_of_ble_eq_true rfl) (Nat.le_refl _) ⟨Nat.le_refl _, Nat.le_refl _⟩ w ?_
    rintro v h10 ⟨r9, rfl, w⟩
    refine w_goto (tgt := 35) dX12_thousand_31 rfl ?_
    exact w_ireturn dX12_thousand_35 rfl rfl ⟨Nat.le_refl _, Nat.le_refl _⟩ w
set_option maxRecDepth 20000 in
set_option maxHeartbeats 4000000 in
theorem x_X12_lift {G : pm_G} {d : Nat} {post : pm_PT} {h : pm_H} {l0 : Nat} {l1 : Int32} (w :
    (h.1[l0]? = some (0, 11)) ∧
    ∀ h1 : pm_H, h1 = si h l0 0 0 →
    ci G d m_X12_isItem [.ref l0, .int l1] h1 fun r2 h3 =>
    if r2 = 0 then (
      post (some (.int (-1))) h3
    ) else (
      (h3.1[l0]? = some (0, 11)) ∧
      ci G d m_X12_nodeWith [.ref l0, .int 0, .int l1] h3 fun r4 h5 =>
      if 0 ≤ r4 then (
        (h5.1[l0]? = some (0, 11)) ∧
        ci G d m_X12_nodeOf [.ref l0, .int 0, .int r4, .int 2] h5 fun r6 h7 =>
        (h7.1[l0]? = some (0, 11)) ∧
        ∃ n8 : Nat, h7.1[gp h7 l0 21]? = some (1, n8) ∧
        (vp_in l1 n8) ∧
        ci G d m_X12_lessens [.int r6, .int (gi h7 (gp h7 l0 21) (l1 : Int32).toNatClampNeg)] h7 fun r9 h10 =>
        post (some (.int r9)) h10
      ) else (
        post (some (.int (-1))) h5
      )
    )) :
    Wp G (m_X12_lift, d + 1, 0, 0, post) (0, 0) 0 [.ref l0, .int l1, .null] [] h := by
  refine w_aload_n dX12_lift_0 rfl ?_
  refine w_iconst (v := 0) dX12_lift_1 rfl ?_
  obtain ⟨e1, w⟩ := w
  refine w_puti dX12_lift_2 lk_RX12_1 e1 rfl (Or.inl rfl) ?_
  have w := w _ rfl
  refine w_aload_n dX12_lift_5 rfl ?_
  refine w_iload_n dX12_lift_6 rfl ?_
  refine w_callV (As := [.int l1]) (st := []) dX12_lift_7 mt_X12_isItem g_1687 g_1689 g_99 rfl e1 rfl rfl (Nat.le_of_ble_eq_true rfl) (Nat.le_refl _) ⟨Nat.le_refl _, Nat.le_refl _⟩ w ?_
  rintro v h3 ⟨r2, rfl, w⟩
  refine w_if_eq (tgt := 22) dX12_lift_10 rfl (fun c => ?_) (fun c => ?_)
  · rw [if_pos c] at w
    refine w_iconst (v := (-1)) dX12_lift_22 rfl ?_
    refine v_istore_n (l' := [.ref l0, .int l1, .int (-1)]) dX12_lift_23 (Nat.le_of_ble_eq_true rfl) rfl ?_
    refine w_iload_n dX12_lift_24 rfl ?_
    refine w_if_ge (tgt := 32) dX12_lift_25 rfl (fun c => ?_) (fun c => ?_)
    · exact absurd c (by decide)
    · refine w_iconst (v := (-1)) dX12_lift_28 rfl ?_
      refine w_goto (tgt := 48) dX12_lift_29 rfl ?_
      exact w_ireturn dX12_lift_48 rfl rfl ⟨Nat.le_refl _, Nat.le_refl _⟩ w
  · rw [if_neg c] at w
    refine w_aload_n dX12_lift_13 rfl ?_
    refine w_iconst (v := 0) dX12_lift_14 rfl ?_
    refine w_iload_n dX12_lift_15 rfl ?_
    obtain ⟨e1, w⟩ := w
    refine w_callV (As := [.int 0, .int l1]) (st := []) dX12_lift_16 mt_X12_nodeWith g_1770 g_1772 g_114 rfl e1 rfl rfl (Nat.le_of_ble_eq_true rfl) (Nat.le_refl _) ⟨Nat.le_refl _, Nat.le_refl _⟩ w ?_
    rintro v h5 ⟨r4, rfl, w⟩
    refine w_goto (tgt := 23) dX12_lift_19 rfl ?_
    refine v_istore_n (l' := [.ref l0, .int l1, .int r4]) dX12_lift_23 (Nat.le_of_ble_eq_true rfl) rfl ?_
    refine w_iload_n dX12_lift_24 rfl ?_
    refine w_if_ge (tgt := 32) dX12_lift_25 rfl (fun c => ?_) (fun c => ?_)
    · rw [if_pos c] at w
      refine w_aload_n dX12_lift_32 rfl ?_
      refine w_iconst (v := 0) dX12_lift_33 rfl ?_
      refine w_iload_n dX12_lift_34 rfl ?_
      refine w_iconst (v := 2) dX12_lift_35 rfl ?_
      obtain ⟨e1, w⟩ := w
      refine w_callV (As := [.int 0, .int r4, .int 2]) (st := []) dX12_lift_36 mt_X12_nodeOf g_1420 g_1422 g_59 rfl e1 rfl rfl (Nat.le_of_ble_eq_true rfl) (Nat.le_refl _) ⟨Nat.le_refl _, Nat.le_refl _⟩ w ?_
      rintro v h7 ⟨r6, rfl, w⟩
      refine w_aload_n dX12_lift_39 rfl ?_
      obtain ⟨e1, w⟩ := w
      refine w_getp dX12_lift_40 lk_RX12_104 e1 rfl ?_
      refine w_iload_n dX12_lift_43 rfl ?_
      obtain ⟨n8, ln8, w⟩ := w
      obtain ⟨e3, w⟩ := w
      refine w_iald dX12_lift_44 ln8 e3 ?_
      refine w_callS (As := [.int r6, .int (gi h7 (gp h7 l0 21) (l1 : Int32).toNatClampNeg)]) (st := []) dX12_lift_45 mt_X12_lessens g_1897 g_1898 rfl rfl (Nat.le_of_ble_eq_true rfl) (Nat.le_refl _) ⟨Nat.le_refl _, Nat.le_refl _⟩ w ?_
      rintro v h10 ⟨r9, rfl, w⟩
      exact w_ireturn dX12_lift_48 rfl rfl ⟨Nat.le_refl _, Nat.le_refl _⟩ w
    · rw [if_neg c] at w
      refine w_iconst (v := (-1)) dX12_lift_28 rfl ?_
      refine w_goto (tgt := 48) dX12_lift_29 rfl ?_
      exact w_ireturn dX12_lift_48 rfl rfl ⟨Nat.le_refl _, Nat.le_refl _⟩ w
set_option maxRecDepth 20000 in
set_option maxHeartbeats 4000000 in
theorem x_X12_bound {G : pm_G} {d : Nat} {post : pm_PT} {h : pm_H} {l0 : Nat} {l1 : Int32} (w :
    (h.1[l0]? = some (0, 11)) ∧
    ∀ h1 : pm_H, h1 = si h l0 0 0 →
    ci G d m_X12_isHeap [.ref l0, .int l1] h1 fun r2 h3 =>
    if r2 = 0 then (
      post (some (.int 0)) h3
    ) else (
      (h3.1[l0]? = some (0, 11)) ∧
      ci G d m_X12_raisedIn [.ref l0, .int 0, .int l1] h3 fun r4 h5 =>
      (h5.1[l0]? = some (0, 11)) ∧
      ci G d m_X12_itemsIn [.ref l0, .int 0, .int l1] h5 fun r6 h7 =>
      (h7.1[l0]? = some (0, 11)) ∧
      ∃ n8 : Nat, h7.1[gp h7 l0 10]? = some (1, n8) ∧
      (vp_in 3 n8) ∧
      if (r6 >>> ((gi h7 (gp h7 l0 10) (3 : Int32).toNatClampNeg) &&& 31)) < r4 then (
        post (some (.int 0)) h7
      ) else (
        post (some (.int 1)) h7
      )
    )) :
    Wp G (m_X12_bound, d + 1, 0, 0, post) (0, 0) 0 [.ref l0, .int l1] [] h := by
  refine w_aload_n dX12_bound_0 rfl ?_
  refine w_iconst (v := 0) dX12_bound_1 rfl ?_
  obtain ⟨e1, w⟩ := w
  refine w_puti dX12_bound_2 lk_RX12_1 e1 rfl (Or.inl rfl) ?_
  have w := w _ rfl
  refine w_aload_n dX12_bound_5 rfl ?_
  refine w_iload_n dX12_bound_6 rfl ?_
  refine w_callV (As := [.int l1]) (st := []) dX12_bound_7 mt_X12_isHeap g_1691 g_1693 g_100 rfl e1 rfl rfl (Nat.le_of_ble_eq_true rfl) (Nat.le_refl _) ⟨Nat.le_refl _, Nat.le_refl _⟩ w ?_
  rintro v h3 ⟨r2, rfl, w⟩
  refine w_if_eq (tgt := 39) dX12_bound_10 rfl (fun c => ?_) (fun c => ?_)
  · rw [if_pos c] at w
    refine w_iconst (v := 0) dX12_bound_39 rfl ?_
    exact w_ireturn dX12_bound_40 rfl rfl ⟨Nat.le_refl _, Nat.le_refl _⟩ w
  · rw [if_neg c] at w
    refine w_aload_n dX12_bound_13 rfl ?_
    refine w_iconst (v := 0) dX12_bound_14 rfl ?_
    refine w_iload_n dX12_bound_15 rfl ?_
    obtain ⟨e1, w⟩ := w
    refine w_callV (As := [.int 0, .int l1]) (st := []) dX12_bound_16 mt_X12_raisedIn g_1762 g_1764 g_112 rfl e1 rfl rfl (Nat.le_of_ble_eq_true rfl) (Nat.le_refl _) ⟨Nat.le_refl _, Nat.le_refl _⟩ w ?_
    rintro v h5 ⟨r4, rfl, w⟩
    refine w_aload_n dX12_bound_19 rfl ?_
    refine w_iconst (v := 0) dX12_bound_20 rfl ?_
    refine w_iload_n dX12_bound_21 rfl ?_
    obtain ⟨e1, w⟩ := w
    refine w_callV (As := [.int 0, .int l1]) (st := [.int r4]) dX12_bound_22 mt_X12_itemsIn g_1440 g_1442 g_64 rfl e1 rfl rfl (Nat.le_of_ble_eq_true rfl) (Nat.le_refl _) ⟨Nat.le_refl _, Nat.le_refl _⟩ w ?_
    rintro v h7 ⟨r6, rfl, w⟩
    refine w_aload_n dX12_bound_25 rfl ?_
    obtain ⟨e1, w⟩ := w
    refine w_getp dX12_bound_26 lk_RX12_79 e1 rfl ?_
    refine w_iconst (v := 3) dX12_bound_29 rfl ?_
    obtain ⟨n8, ln8, w⟩ := w
    obtain ⟨e3, w⟩ := w
    refine w_iald dX12_bound_30 ln8 e3 ?_
    refine w_ishr dX12_bound_31 ?_
    refine w_ic_gt (tgt := 39) dX12_bound_32 rfl (fun c => ?_) (fun c => ?_)
    · rw [if_pos c] at w
      refine w_iconst (v := 0) dX12_bound_39 rfl ?_
      exact w_ireturn dX12_bound_40 rfl rfl ⟨Nat.le_refl _, Nat.le_refl _⟩ w
    · rw [if_neg c] at w
      refine w_iconst (v := 1) dX12_bound_35 rfl ?_
      refine w_goto (tgt := 40) dX12_bound_36 rfl ?_
      exact w_ireturn dX12_bound_40 rfl rfl ⟨Nat.le_refl _, Nat.le_refl _⟩ w
set_option maxRecDepth 20000 in
set_option maxHeartbeats 4000000 in
theorem x_X12_depthFrom {G : pm_G} {d : Nat} {post : pm_PT} {h : pm_H} {l0 : Nat} {l1 : Int32} {l2 : Int32} (w :
    if l1 < 0 then (
      if 0 ≤ l1 then (
        post (some (.int 0)) h
      ) else (
        post (some (.int (-1))) h
      )
    ) else (
      if l1 = l2 then (
        if 0 ≤ l1 then (
          post (some (.int 0)) h
        ) else (
          post (some (.int (-1))) h
        )
      ) else (
        (h.1[l0]? = some (0, 11)) ∧
        ci G d m_X12_nodeOf [.ref l0, .int 0, .int l1, .int 6] h fun r1 h2 =>
        (h2.1[l0]? = some (0, 11)) ∧
        ci G d m_X12_depthFrom [.ref l0, .int r1, .int l2] h2 fun r3 h4 =>
        (h4.1[l0]? = some (0, 11)) ∧
        ci G d m_X12_nodeOf [.ref l0, .int 0, .int l1, .int 7] h4 fun r5 h6 =>
        (h6.1[l0]? = some (0, 11)) ∧
        ci G d m_X12_depthFrom [.ref l0, .int r5, .int l2] h6 fun r7 h8 =>
        if r3 < 0 then (
          if r7 < 0 then (
            post (some (.int (-1))) h8
          ) else (
            post (some (.int (r7 + 1))) h8
          )
        ) else (
          post (some (.int (r3 + 1))) h8
        )
      )
    )) :
    Wp G (m_X12_depthFrom, d + 1, 0, 0, post) (0, 0) 0 [.ref l0, .int l1, .int l2, .null, .null] [] h := by
  refine w_iload_n dX12_depthFrom_0 rfl ?_
  refine w_if_lt (tgt := 9) dX12_depthFrom_1 rfl (fun c => ?_) (fun c => ?_)
  · rw [if_pos c] at w
    refine w_iload_n dX12_depthFrom_9 rfl ?_
    refine w_if_ge (tgt := 17) dX12_depthFrom_10 rfl (fun c => ?_) (fun c => ?_)
    · rw [if_pos c] at w
      refine w_iconst (v := 0) dX12_depthFrom_17 rfl ?_
      exact w_ireturn dX12_depthFrom_18 rfl rfl ⟨Nat.le_refl _, Nat.le_refl _⟩ w
    · rw [if_neg c] at w
      refine w_iconst (v := (-1)) dX12_depthFrom_13 rfl ?_
      refine w_goto (tgt := 18) dX12_depthFrom_14 rfl ?_
      exact w_ireturn dX12_depthFrom_18 rfl rfl ⟨Nat.le_refl _, Nat.le_refl _⟩ w
  · rw [if_neg c] at w
    refine w_iload_n dX12_depthFrom_4 rfl ?_
    refine w_iload_n dX12_depthFrom_5 rfl ?_
    refine w_ic_ne (tgt := 19) dX12_depthFrom_6 rfl (fun c => ?_) (fun c => ?_)
    · rw [if_neg c] at w
      refine w_aload_n dX12_depthFrom_19 rfl ?_
      refine w_aload_n dX12_depthFrom_20 rfl ?_
      refine w_iconst (v := 0) dX12_depthFrom_21 rfl ?_
      refine w_iload_n dX12_depthFrom_22 rfl ?_
      refine w_bipush (v := 6) dX12_depthFrom_23 rfl ?_
      obtain ⟨e1, w⟩ := w
      refine w_callV (As := [.int 0, .int l1, .int 6]) (st := [.ref l0]) dX12_depthFrom_25 mt_X12_nodeOf g_1420 g_1422 g_59 rfl e1 rfl rfl (Nat.le_of_ble_eq_true rfl) (Nat.le_refl _) ⟨Nat.le_refl _, Nat.le_refl _⟩ w ?_
      rintro v h2 ⟨r1, rfl, w⟩
      refine w_iload_n dX12_depthFrom_28 rfl ?_
      obtain ⟨e1, w⟩ := w
      refine w_callV (As := [.int r1, .int l2]) (st := []) dX12_depthFrom_29 mt_X12_depthFrom g_1908 g_1910 g_127 rfl e1 rfl rfl (Nat.le_of_ble_eq_true rfl) (Nat.le_refl _) ⟨Nat.le_refl _, Nat.le_refl _⟩ w ?_
      rintro v h4 ⟨r3, rfl, w⟩
      refine v_istore_n (l' := [.ref l0, .int l1, .int l2, .int r3, .null]) dX12_depthFrom_32 (Nat.le_of_ble_eq_true rfl) rfl ?_
      refine w_aload_n dX12_depthFrom_33 rfl ?_
      refine w_aload_n dX12_depthFrom_34 rfl ?_
      refine w_iconst (v := 0) dX12_depthFrom_35 rfl ?_
      refine w_iload_n dX12_depthFrom_36 rfl ?_
      refine w_bipush (v := 7) dX12_depthFrom_37 rfl ?_
      obtain ⟨e1, w⟩ := w
      refine w_callV (As := [.int 0, .int l1, .int 7]) (st := [.ref l0]) dX12_depthFrom_39 mt_X12_nodeOf g_1420 g_1422 g_59 rfl e1 rfl rfl (Nat.le_of_ble_eq_true rfl) (Nat.le_refl _) ⟨Nat.le_refl _, Nat.le_refl _⟩ w ?_
      rintro v h6 ⟨r5, rfl, w⟩
      refine w_iload_n dX12_depthFrom_42 rfl ?_
      obtain ⟨e1, w⟩ := w
      refine w_callV (As := [.int r5, .int l2]) (st := []) dX12_depthFrom_43 mt_X12_depthFrom g_1908 g_1910 g_127 rfl e1 rfl rfl (Nat.le_of_ble_eq_true rfl) (Nat.le_refl _) ⟨Nat.le_refl _, Nat.le_refl _⟩ w ?_
      rintro v h8 ⟨r7, rfl, w⟩
      refine v_istore (l' := [.ref l0, .int l1, .int l2, .int r3, .int r7]) dX12_depthFrom_46 (Nat.le_of_ble_eq_true rfl) rfl ?_
      refine w_iload_n dX12_depthFrom_48 rfl ?_
      refine w_if_lt (tgt := 58) dX12_depthFrom_49 rfl (fun c => ?_) (fun c => ?_)
      · rw [if_pos c] at w
        refine w_iload dX12_depthFrom_58 rfl ?_
        refine w_if_lt (tgt := 70) dX12_depthFrom_60 rfl (fun c => ?_) (fun c => ?_)
        · rw [if_pos c] at w
          refine w_iconst (v := (-1)) dX12_depthFrom_70 rfl ?_
          exact w_ireturn dX12_depthFrom_71 rfl rfl ⟨Nat.le_refl _, Nat.le_refl _⟩ w
        · rw [if_neg c] at w
          refine w_iload dX12_depthFrom_63 rfl ?_
          refine w_iconst (v := 1) dX12_depthFrom_65 rfl ?_
          refine w_iadd dX12_depthFrom_66 ?_
          refine w_goto (tgt := 71) dX12_depthFrom_67 rfl ?_
          exact w_ireturn dX12_depthFrom_71 rfl rfl ⟨Nat.le_refl _, Nat.le_refl _⟩ w
      · rw [if_neg c] at w
        refine w_iload_n dX12_depthFrom_52 rfl ?_
        refine w_iconst (v := 1) dX12_depthFrom_53 rfl ?_
        refine w_iadd dX12_depthFrom_54 ?_
        refine w_goto (tgt := 71) dX12_depthFrom_55 rfl ?_
        exact w_ireturn dX12_depthFrom_71 rfl rfl ⟨Nat.le_refl _, Nat.le_refl _⟩ w
    · rw [if_pos c] at w
      refine w_iload_n dX12_depthFrom_9 rfl ?_
      refine w_if_ge (tgt := 17) dX12_depthFrom_10 rfl (fun c => ?_) (fun c => ?_)
      · rw [if_pos c] at w
        refine w_iconst (v := 0) dX12_depthFrom_17 rfl ?_
        exact w_ireturn dX12_depthFrom_18 rfl rfl ⟨Nat.le_refl _, Nat.le_refl _⟩ w
      · rw [if_neg c] at w
        refine w_iconst (v := (-1)) dX12_depthFrom_13 rfl ?_
        refine w_goto (tgt := 18) dX12_depthFrom_14 rfl ?_
        exact w_ireturn dX12_depthFrom_18 rfl rfl ⟨Nat.le_refl _, Nat.le_refl _⟩ w
set_option maxRecDepth 20000 in
set_option maxHeartbeats 4000000 in
theorem x_X12_depth {G : pm_G} {d : Nat} {post : pm_PT} {h : pm_H} {l0 : Nat} {l1 : Int32} (w :
    (h.1[l0]? = some (0, 11)) ∧
    ∀ h1 : pm_H, h1 = si h l0 0 0 →
    ci G d m_X12_isItem [.ref l0, .int l1] h1 fun r2 h3 =>
    if r2 = 0 then (
      post (some (.int (-1))) h3
    ) else (
      (h3.1[l0]? = some (0, 11)) ∧
      ci G d m_X12_isIn [.ref l0, .int l1] h3 fun r4 h5 =>
      if r4 = 0 then (
        post (some (.int (-1))) h5
      ) else (
        (h5.1[l0]? = some (0, 11)) ∧
        ci G d m_X12_nodeWith [.ref l0, .int 0, .int l1] h5 fun r6 h7 =>
        Wp G (m_X12_depth, d + 1, 0, 0, post) (0, 0) 35 [.ref l0, .int l1, .int r6, .int (-1), .int 0, .null] [] h7
      )
    )) :
    Wp G (m_X12_depth, d + 1, 0, 0, post) (0, 0) 0 [.ref l0, .int l1, .null, .null, .null, .null] [] h := by
  refine w_aload_n dX12_depth_0 rfl ?_
  refine w_iconst (v := 0) dX12_depth_1 rfl ?_
  obtain ⟨e1, w⟩ := w
  refine w_puti dX12_depth_2 lk_RX12_1 e1 rfl (Or.inl rfl) ?_
  have w := w _ rfl
  refine w_aload_n dX12_depth_5 rfl ?_
  refine w_iload_n dX12_depth_6 rfl ?_
  refine w_callV (As := [.int l1]) (st := []) dX12_depth_7 mt_X12_isItem g_1687 g_1689 g_99 rfl e1 rfl rfl (Nat.le_of_ble_eq_true rfl) (Nat.le_refl _) ⟨Nat.le_refl _, Nat.le_refl _⟩ w ?_
  rintro v h3 ⟨r2, rfl, w⟩
  refine w_if_eq (tgt := 21) dX12_depth_10 rfl (fun c => ?_) (fun c => ?_)
  · rw [if_pos c] at w
    refine w_iconst (v := (-1)) dX12_depth_21 rfl ?_
    exact w_ireturn dX12_depth_22 rfl rfl ⟨Nat.le_refl _, Nat.le_refl _⟩ w
  · rw [if_neg c] at w
    refine w_aload_n dX12_depth_13 rfl ?_
    refine w_iload_n dX12_depth_14 rfl ?_
    obtain ⟨e1, w⟩ := w
    refine w_callV (As := [.int l1]) (st := []) dX12_depth_15 mt_X12_isIn g_1695 g_1697 g_101 rfl e1 rfl rfl (Nat.le_of_ble_eq_true rfl) (Nat.le_refl _) ⟨Nat.le_refl _, Nat.le_refl _⟩ w ?_
    rintro v h5 ⟨r4, rfl, w⟩
    refine w_if_ne (tgt := 23) dX12_depth_18 rfl (fun c => ?_) (fun c => ?_)
    · rw [if_neg c] at w
      refine w_aload_n dX12_depth_23 rfl ?_
      refine w_iconst (v := 0) dX12_depth_24 rfl ?_
      refine w_iload_n dX12_depth_25 rfl ?_
      obtain ⟨e1, w⟩ := w
      refine w_callV (As := [.int 0, .int l1]) (st := []) dX12_depth_26 mt_X12_nodeWith g_1770 g_1772 g_114 rfl e1 rfl rfl (Nat.le_of_ble_eq_true rfl) (Nat.le_refl _) ⟨Nat.le_refl _, Nat.le_refl _⟩ w ?_
      rintro v h7 ⟨r6, rfl, w⟩
      refine v_istore_n (l' := [.ref l0, .int l1, .int r6, .null, .null, .null]) dX12_depth_29 (Nat.le_of_ble_eq_true rfl) rfl ?_
      refine w_iconst (v := (-1)) dX12_depth_30 rfl ?_
      refine v_istore_n (l' := [.ref l0, .int l1, .int r6, .int (-1), .null, .null]) dX12_depth_31 (Nat.le_of_ble_eq_true rfl) rfl ?_
      refine w_iconst (v := 0) dX12_depth_32 rfl ?_
      refine v_istore (l' := [.ref l0, .int l1, .int r6, .int (-1), .int 0, .null]) dX12_depth_33 (Nat.le_of_ble_eq_true rfl) rfl ?_
      exact w
    · rw [if_pos c] at w
      refine w_iconst (v := (-1)) dX12_depth_21 rfl ?_
      exact w_ireturn dX12_depth_22 rfl rfl ⟨Nat.le_refl _, Nat.le_refl _⟩ w
set_option maxRecDepth 20000 in
set_option maxHeartbeats 4000000 in
theorem x_X12_depth_35 {G : pm_G} {d : Nat} {post : pm_PT} {h : pm_H} {l0 : Nat} {l1 : Int32} {l2 : Int32} {l3 : Int32} {l4 : Int32} (w :
    if 16 ≤ l4 then (
      post (some (.int l3)) h
    ) else (
      (h.1[l0]? = some (0, 11)) ∧
      ∃ n1 : Nat, h.1[gp h l0 17]? = some (1, n1) ∧
      (vp_in (240 + l1) n1) ∧
      ci G d m_X12_rootAt [.ref l0, .int 0, .int (gi h (gp h l0 17) (240 + l1 : Int32).toNatClampNeg), .int l4] h fun r2 h3 =>
      (h3.1[l0]? = some (0, 11)) ∧
      ci G d m_X12_depthFrom [.ref l0, .int r2, .int l2] h3 fun r4 h5 =>
      if r4 < 0 then (
        Wp G (m_X12_depth, d + 1, 0, 0, post) (0, 0) 35 [.ref l0, .int l1, .int l2, .int l3, .int (l4 + 1), .null] [] h5
      ) else (
        Wp G (m_X12_depth, d + 1, 0, 0, post) (0, 0) 35 [.ref l0, .int l1, .int l2, .int r4, .int (l4 + 1), .null] [] h5
      )
    )) :
    Wp G (m_X12_depth, d + 1, 0, 0, post) (0, 0) 35 [.ref l0, .int l1, .int l2, .int l3, .int l4, .null] [] h := by
  refine w_iload dX12_depth_35 rfl ?_
  refine w_bipush (v := 16) dX12_depth_37 rfl ?_
  refine w_ic_ge (tgt := 84) dX12_depth_39 rfl (fun c => ?_) (fun c => ?_)
  · rw [if_pos c] at w
    refine w_iload_n dX12_depth_84 rfl ?_
    exact w_ireturn dX12_depth_85 rfl rfl ⟨Nat.le_refl _, Nat.le_refl _⟩ w
  · rw [if_neg c] at w
    refine w_aload_n dX12_depth_42 rfl ?_
    refine w_aload_n dX12_depth_43 rfl ?_
    refine w_iconst (v := 0) dX12_depth_44 rfl ?_
    refine w_aload_n dX12_depth_45 rfl ?_
    obtain ⟨e1, w⟩ := w
    refine w_getp dX12_depth_46 lk_RX12_97 e1 rfl ?_
    refine w_sipush (v := 240) dX12_depth_49 rfl ?_
    refine w_iload_n dX12_depth_52 rfl ?_
    refine w_iadd dX12_depth_53 ?_
    obtain ⟨n1, ln1, w⟩ := w
    obtain ⟨e3, w⟩ := w
    refine w_iald dX12_depth_54 ln1 e3 ?_
    refine w_iload dX12_depth_55 rfl ?_
    refine w_callV (As := [.int 0, .int (gi h (gp h l0 17) (240 + l1 : Int32).toNatClampNeg), .int l4]) (st := [.ref l0]) dX12_depth_57 mt_X12_rootAt g_1444 g_1446 g_65 rfl e1 rfl rfl (Nat.le_of_ble_eq_true rfl) (Nat.le_refl _) ⟨Nat.le_refl _, Nat.le_refl _⟩ w ?_
    rintro v h3 ⟨r2, rfl, w⟩
    refine w_iload_n dX12_depth_60 rfl ?_
    obtain ⟨e1, w⟩ := w
    refine w_callV (As := [.int r2, .int l2]) (st := []) dX12_depth_61 mt_X12_depthFrom g_1908 g_1910 g_127 rfl e1 rfl rfl (Nat.le_of_ble_eq_true rfl) (Nat.le_refl _) ⟨Nat.le_refl _, Nat.le_refl _⟩ w ?_
    rintro v h5 ⟨r4, rfl, w⟩
    refine v_istore (l' := [.ref l0, .int l1, .int l2, .int l3, .int l4, .int r4]) dX12_depth_64 (Nat.le_of_ble_eq_true rfl) rfl ?_
    refine w_iload dX12_depth_66 rfl ?_
    refine w_if_lt (tgt := 76) dX12_depth_68 rfl (fun c => ?_) (fun c => ?_)
    · rw [if_pos c] at w
      refine w_iload_n dX12_depth_76 rfl ?_
      refine v_istore_n (l' := [.ref l0, .int l1, .int l2, .int l3, .int l4, .int r4]) dX12_depth_77 (Nat.le_of_ble_eq_true rfl) rfl ?_
      refine v_iinc (l' := [.ref l0, .int l1, .int l2, .int l3, .int (l4 + 1), .int r4]) (v := l4 + 1) dX12_depth_78 rfl rfl (Nat.le_of_ble_eq_true rfl) rfl ?_
      refine w_goto (tgt := 35) dX12_depth_81 rfl ?_
      exact w_drop (l' := [.ref l0, .int l1, .int l2, .int l3, .int (l4 + 1), .null]) ⟨Or.inr rfl, Or.inr rfl, Or.inr rfl, Or.inr rfl, Or.inr rfl, Or.inl rfl, trivial⟩ w
    · rw [if_neg c] at w
      refine w_iload dX12_depth_71 rfl ?_
      refine w_goto (tgt := 77) dX12_depth_73 rfl ?_
      refine v_istore_n (l' := [.ref l0, .int l1, .int l2, .int r4, .int l4, .int r4]) dX12_depth_77 (Nat.le_of_ble_eq_true rfl) rfl ?_
      refine v_iinc (l' := [.ref l0, .int l1, .int l2, .int r4, .int (l4 + 1), .int r4]) (v := l4 + 1) dX12_depth_78 rfl rfl (Nat.le_of_ble_eq_true rfl) rfl ?_
      refine w_goto (tgt := 35) dX12_depth_81 rfl ?_
      exact w_drop (l' := [.ref l0, .int l1, .int l2, .int r4, .int (l4 + 1), .null]) ⟨Or.inr rfl, Or.inr rfl, Or.inr rfl, Or.inr rfl, Or.inr rfl, Or.inl rfl, trivial⟩ w
set_option maxRecDepth 20000 in
set_option maxHeartbeats 4000000 in
theorem x_X12_laysKinds {G : pm_G} {d : Nat} {post : pm_PT} {h : pm_H} {l0 : Nat} (w :
    Wp G (m_X12_laysKinds, d + 1, 0, 0, post) (0, 0) 2 [.ref l0, .int 0, .null, .null] [] h) :
    Wp G (m_X12_laysKinds, d + 1, 0, 0, post) (0, 0) 0 [.ref l0, .null, .null, .null] [] h := by
  refine w_iconst (v := 0) dX12_laysKinds_0 rfl ?_
  refine v_istore_n (l' := [.ref l0, .int 0, .null, .null]) dX12_laysKinds_1 (Nat.le_of_ble_eq_true rfl) rfl ?_
  exact w
set_option maxRecDepth 20000 in
set_option maxHeartbeats 4000000 in
theorem x_X12_laysKinds_2 {G : pm_G} {d : Nat} {post : pm_PT} {h : pm_H} {l0 : Nat} {l1 : Int32} (w :
    (h.1[l0]? = some (0, 11)) ∧
    ci G d m_X12_heaps [.ref l0] h fun r1 h2 =>
    if r1 ≤ l1 then (
      post none h2
    ) else (
      (h2.1[l0]? = some (0, 11)) ∧
      ci G d m_X12_comesOf [.ref l0, .int 0, .int l1] h2 fun r3 h4 =>
      Wp G (m_X12_laysKinds, d + 1, 0, 0, post) (0, 0) 19 [.ref l0, .int l1, .int r3, .int 0] [] h4
    )) :
    Wp G (m_X12_laysKinds, d + 1, 0, 0, post) (0, 0) 2 [.ref l0, .int l1, .null, .null] [] h := by
  refine w_iload_n dX12_laysKinds_2 rfl ?_
  refine w_aload_n dX12_laysKinds_3 rfl ?_
  obtain ⟨e1, w⟩ := w
  refine w_callV (As := []) (st := [.int l1]) dX12_laysKinds_4 mt_X12_heaps g_1679 g_1681 g_98 rfl e1 rfl rfl (Nat.le_of_ble_eq_true rfl) (Nat.le_refl _) ⟨Nat.le_refl _, Nat.le_refl _⟩ w ?_
  rintro v h2 ⟨r1, rfl, w⟩
  refine w_ic_ge (tgt := 68) dX12_laysKinds_7 rfl (fun c => ?_) (fun c => ?_)
  · rw [if_pos c] at w
    exact w_return dX12_laysKinds_68 rfl ⟨Nat.le_refl _, Nat.le_refl _⟩ w
  · rw [if_neg c] at w
    refine w_aload_n dX12_laysKinds_10 rfl ?_
    refine w_iconst (v := 0) dX12_laysKinds_11 rfl ?_
    refine w_iload_n dX12_laysKinds_12 rfl ?_
    obtain ⟨e1, w⟩ := w
    refine w_callV (As := [.int 0, .int l1]) (st := []) dX12_laysKinds_13 mt_X12_comesOf g_1818 g_1820 g_119 rfl e1 rfl rfl (Nat.le_of_ble_eq_true rfl) (Nat.le_refl _) ⟨Nat.le_refl _, Nat.le_refl _⟩ w ?_
    rintro v h4 ⟨r3, rfl, w⟩
    refine v_istore_n (l' := [.ref l0, .int l1, .int r3, .null]) dX12_laysKinds_16 (Nat.le_of_ble_eq_true rfl) rfl ?_
    refine w_iconst (v := 0) dX12_laysKinds_17 rfl ?_
    refine v_istore_n (l' := [.ref l0, .int l1, .int r3, .int 0]) dX12_laysKinds_18 (Nat.le_of_ble_eq_true rfl) rfl ?_
    exact w
set_option maxRecDepth 20000 in
set_option maxHeartbeats 4000000 in
theorem x_X12_laysKinds_19 {G : pm_G} {d : Nat} {post : pm_PT} {h : pm_H} {l0 : Nat} {l1 : Int32} {l2 : Int32} {l3 : Int32} (w :
    if 10 ≤ l3 then (
      Wp G (m_X12_laysKinds, d + 1, 0, 0, post) (0, 0) 2 [.ref l0, .int (l1 + 1), .null, .null] [] h
    ) else (
      (h.1[l0]? = some (0, 11)) ∧
      if l2 ≤ l3 then (
        ∃ n1 : Nat, h.1[gp h l0 23]? = some (1, n1) ∧
        (vp_in ((10 * l1) + l3) n1) ∧
        ∀ h2 : pm_H, h2 = si h (gp h l0 23) ((10 * l1) + l3 : Int32).toNatClampNeg (-1) →
        Wp G (m_X12_laysKinds, d + 1, 0, 0, post) (0, 0) 19 [.ref l0, .int l1, .int l2, .int (l3 + 1)] [] h2
      ) else (
        ∃ n3 : Nat, h.1[gp h l0 22]? = some (1, n3) ∧
        (vp_in l3 n3) ∧
        ci G d m_X12_itemOf [.ref l0, .int (gi h (gp h l0 22) (l3 : Int32).toNatClampNeg), .int 0] h fun r4 h5 =>
        ∃ n6 : Nat, h5.1[gp h l0 23]? = some (1, n6) ∧
        (vp_in ((10 * l1) + l3) n6) ∧
        ∀ h7 : pm_H, h7 = si h5 (gp h l0 23) ((10 * l1) + l3 : Int32).toNatClampNeg r4 →
        Wp G (m_X12_laysKinds, d + 1, 0, 0, post) (0, 0) 19 [.ref l0, .int l1, .int l2, .int (l3 + 1)] [] h7
      )
    )) :
    Wp G (m_X12_laysKinds, d + 1, 0, 0, post) (0, 0) 19 [.ref l0, .int l1, .int l2, .int l3] [] h := by
  refine w_iload_n dX12_laysKinds_19 rfl ?_
  refine w_bipush (v := 10) dX12_laysKinds_20 rfl ?_
  refine w_ic_ge (tgt := 62) dX12_laysKinds_22 rfl (fun c => ?_) (fun c => ?_)
  · rw [if_pos c] at w
    refine v_iinc (l' := [.ref l0, .int (l1 + 1), .int l2, .int l3]) (v := l1 + 1) dX12_laysKinds_62 rfl rfl (Nat.le_of_ble_eq_true rfl) rfl ?_
    refine w_goto (tgt := 2) dX12_laysKinds_65 rfl ?_
    exact w_drop (l' := [.ref l0, .int (l1 + 1), .null, .null]) ⟨Or.inr rfl, Or.inr rfl, Or.inl rfl, Or.inl rfl, trivial⟩ w
  · rw [if_neg c] at w
    refine w_aload_n dX12_laysKinds_25 rfl ?_
    obtain ⟨e1, w⟩ := w
    refine w_getp dX12_laysKinds_26 lk_RX12_110 e1 rfl ?_
    refine w_bipush (v := 10) dX12_laysKinds_29 rfl ?_
    refine w_iload_n dX12_laysKinds_31 rfl ?_
    refine w_imul dX12_laysKinds_32 ?_
    refine w_iload_n dX12_laysKinds_33 rfl ?_
    refine w_iadd dX12_laysKinds_34 ?_
    refine w_iload_n dX12_laysKinds_35 rfl ?_
    refine w_iload_n dX12_laysKinds_36 rfl ?_
    refine w_ic_ge (tgt := 54) dX12_laysKinds_37 rfl (fun c => ?_) (fun c => ?_)
    · rw [if_pos c] at w
      refine w_iconst (v := (-1)) dX12_laysKinds_54 rfl ?_
      obtain ⟨n1, ln1, w⟩ := w
      obtain ⟨e3, w⟩ := w
      refine w_iast dX12_laysKinds_55 ln1 e3 ?_
      have w := w _ rfl
      refine v_iinc (l' := [.ref l0, .int l1, .int l2, .int (l3 + 1)]) (v := l3 + 1) dX12_laysKinds_56 rfl rfl (Nat.le_of_ble_eq_true rfl) rfl ?_
      refine w_goto (tgt := 19) dX12_laysKinds_59 rfl ?_
      exact w
    · rw [if_neg c] at w
      refine w_aload_n dX12_laysKinds_40 rfl ?_
      refine w_aload_n dX12_laysKinds_41 rfl ?_
      refine w_getp dX12_laysKinds_42 lk_RX12_107 e1 rfl ?_
      refine w_iload_n dX12_laysKinds_45 rfl ?_
      obtain ⟨n3, ln3, w⟩ := w
      obtain ⟨e3, w⟩ := w
      refine w_iald dX12_laysKinds_46 ln3 e3 ?_
      refine w_iconst (v := 0) dX12_laysKinds_47 rfl ?_
      refine w_callV (As := [.int (gi h (gp h l0 22) (l3 : Int32).toNatClampNeg), .int 0]) (st := [.int ((10 * l1) + l3), .ref (gp h l0 23)]) dX12_laysKinds_48 mt_X12_itemOf g_1371 g_1373 g_54 rfl e1 rfl rfl (Nat.le_of_ble_eq_true rfl) (Nat.le_refl _) ⟨Nat.le_refl _, Nat.le_refl _⟩ w ?_
      rintro v h5 ⟨r4, rfl, w⟩
      refine w_goto (tgt := 55) dX12_laysKinds_51 rfl ?_
      obtain ⟨n6, ln6, w⟩ := w
      obtain ⟨e2, w⟩ := w
      refine w_iast dX12_laysKinds_55 ln6 e2 ?_
      have w := w _ rfl
      refine v_iinc (l' := [.ref l0, .int l1, .int l2, .int (l3 + 1)]) (v := l3 + 1) dX12_laysKinds_56 rfl rfl (Nat.le_of_ble_eq_true rfl) rfl ?_
      refine w_goto (tgt := 19) dX12_laysKinds_59 rfl ?_
      exact w
set_option maxRecDepth 20000 in
set_option maxHeartbeats 4000000 in
theorem x_X12_see {G : pm_G} {d : Nat} {post : pm_PT} {h : pm_H} {l0 : Nat} {l1 : Int32} {l2 : Int32} {l3 : Int32} (w :
    (h.1[l0]? = some (0, 11)) ∧
    ∀ h1 : pm_H, h1 = si h l0 0 0 →
    ci G d m_X12_within [.int l1, .int 0, .int 9] h1 fun r2 h3 =>
    if r2 = 0 then (
      post (some (.int 0)) h3
    ) else (
      ci G d m_X12_within [.int l2, .int 0, .int 3] h3 fun r4 h5 =>
      if r4 = 0 then (
        post (some (.int 0)) h5
      ) else (
        (h5.1[l0]? = some (0, 11)) ∧
        ∃ n6 : Nat, h5.1[gp h5 l0 17]? = some (1, n6) ∧
        (vp_in 320 n6) ∧
        if (gi h5 (gp h5 l0 17) (320 : Int32).toNatClampNeg) = 8 then (
          post (some (.int 0)) h5
        ) else (
          (vp_in (321 + (3 * (gi h5 (gp h5 l0 17) (320 : Int32).toNatClampNeg))) n6) ∧
          ∀ h7 : pm_H, h7 = si h5 (gp h5 l0 17) (321 + (3 * (gi h5 (gp h5 l0 17) (320 : Int32).toNatClampNeg)) : Int32).toNatClampNeg l1 →
          ∃ n8 : Nat, h5.1[gp h7 l0 17]? = some (1, n8) ∧
          (vp_in ((321 + (3 * (gi h5 (gp h5 l0 17) (320 : Int32).toNatClampNeg))) + 1) n8) ∧
          ∀ h9 : pm_H, h9 = si h7 (gp h7 l0 17) ((321 + (3 * (gi h5 (gp h5 l0 17) (320 : Int32).toNatClampNeg))) + 1 : Int32).toNatClampNeg l2 →
          if l3 = 0 then (
            ∃ n10 : Nat, h5.1[gp h9 l0 17]? = some (1, n10) ∧
            (vp_in ((321 + (3 * (gi h5 (gp h5 l0 17) (320 : Int32).toNatClampNeg))) + 2) n10) ∧
            ∀ h11 : pm_H, h11 = si h9 (gp h9 l0 17) ((321 + (3 * (gi h5 (gp h5 l0 17) (320 : Int32).toNatClampNeg))) + 2 : Int32).toNatClampNeg 0 →
            ∃ n12 : Nat, h5.1[gp h11 l0 17]? = some (1, n12) ∧
            (vp_in 320 n12) ∧
            ∀ h13 : pm_H, h13 = si h11 (gp h11 l0 17) (320 : Int32).toNatClampNeg ((gi h11 (gp h11 l0 17) (320 : Int32).toNatClampNeg) + 1) →
            post (some (.int 1)) h13
          ) else (
            ∃ n14 : Nat, h5.1[gp h9 l0 17]? = some (1, n14) ∧
            (vp_in ((321 + (3 * (gi h5 (gp h5 l0 17) (320 : Int32).toNatClampNeg))) + 2) n14) ∧
            ∀ h15 : pm_H, h15 = si h9 (gp h9 l0 17) ((321 + (3 * (gi h5 (gp h5 l0 17) (320 : Int32).toNatClampNeg))) + 2 : Int32).toNatClampNeg 1 →
            ∃ n16 : Nat, h5.1[gp h15 l0 17]? = some (1, n16) ∧
            (vp_in 320 n16) ∧
            ∀ h17 : pm_H, h17 = si h15 (gp h15 l0 17) (320 : Int32).toNatClampNeg ((gi h15 (gp h15 l0 17) (320 : Int32).toNatClampNeg) + 1) →
            post (some (.int 1)) h17
          )
        )
      )
    )) :
    Wp G (m_X12_see, d + 1, 0, 0, post) (0, 0) 0 [.ref l0, .int l1, .int l2, .int l3, .null] [] h := by
  refine w_aload_n dX12_see_0 rfl ?_
  refine w_iconst (v := 0) dX12_see_1 rfl ?_
  obtain ⟨e1, w⟩ := w
  refine w_puti dX12_see_2 lk_RX12_1 e1 rfl (Or.inl rfl) ?_
  have w := w _ rfl
  refine w_iload_n dX12_see_5 rfl ?_
  refine w_iconst (v := 0) dX12_see_6 rfl ?_
  refine w_bipush (v := 9) dX12_see_7 rfl ?_
  refine w_callS (As := [.int l1, .int 0, .int 9]) (st := []) dX12_see_9 mt_X12_within g_1731 g_1732 rfl rfl (Nat.le_of_ble_eq_true rfl) (Nat.le_refl _) ⟨Nat.le_refl _, Nat.le_refl _⟩ w ?_
  rintro v h3 ⟨r2, rfl, w⟩
  refine w_if_eq (tgt := 37) dX12_see_12 rfl (fun c => ?_) (fun c => ?_)
  · rw [if_pos c] at w
    refine w_iconst (v := 0) dX12_see_37 rfl ?_
    exact w_ireturn dX12_see_38 rfl rfl ⟨Nat.le_refl _, Nat.le_refl _⟩ w
  · rw [if_neg c] at w
    refine w_iload_n dX12_see_15 rfl ?_
    refine w_iconst (v := 0) dX12_see_16 rfl ?_
    refine w_iconst (v := 3) dX12_see_17 rfl ?_
    refine w_callS (As := [.int l2, .int 0, .int 3]) (st := []) dX12_see_18 mt_X12_within g_1731 g_1732 rfl rfl (Nat.le_of_ble_eq_true rfl) (Nat.le_refl _) ⟨Nat.le_refl _, Nat.le_refl _⟩ w ?_
    rintro v h5 ⟨r4, rfl, w⟩
    refine w_if_eq (tgt := 37) dX12_see_21 rfl (fun c => ?_) (fun c => ?_)
    · rw [if_pos c] at w
      refine w_iconst (v := 0) dX12_see_37 rfl ?_
      exact w_ireturn dX12_see_38 rfl rfl ⟨Nat.le_refl _, Nat.le_refl _⟩ w
    · rw [if_neg c] at w
      refine w_aload_n dX12_see_24 rfl ?_
      obtain ⟨e1, w⟩ := w
      refine w_getp dX12_see_25 lk_RX12_97 e1 rfl ?_
      refine w_sipush (v := 320) dX12_see_28 rfl ?_
      obtain ⟨n6, ln6, w⟩ := w
      obtain ⟨e3, w⟩ := w
      refine w_iald dX12_see_31 ln6 e3 ?_
      refine w_bipush (v := 8) dX12_see_32 rfl ?_
      refine w_ic_ne (tgt := 39) dX12_see_34 rfl (fun c => ?_) (fun c => ?_)
      · rw [if_neg c] at w
        refine w_sipush (v := 321) dX12_see_39 rfl ?_
        refine w_iconst (v := 3) dX12_see_42 rfl ?_
        refine w_aload_n dX12_see_43 rfl ?_
        refine w_getp dX12_see_44 lk_RX12_97 e1 rfl ?_
        refine w_sipush (v := 320) dX12_see_47 rfl ?_
        refine w_iald dX12_see_50 ln6 e3 ?_
        refine w_imul dX12_see_51 ?_
        refine w_iadd dX12_see_52 ?_
        refine v_istore (l' := [.ref l0, .int l1, .int l2, .int l3, .int (321 + (3 * (gi h5 (gp h5 l0 17) (320 : Int32).toNatClampNeg)))]) dX12_see_53 (Nat.le_of_ble_eq_true rfl) rfl ?_
        refine w_aload_n dX12_see_55 rfl ?_
        refine w_getp dX12_see_56 lk_RX12_97 e1 rfl ?_
        refine w_iload dX12_see_59 rfl ?_
        refine w_iload_n dX12_see_61 rfl ?_
        obtain ⟨e4, w⟩ := w
        refine w_iast dX12_see_62 ln6 e4 ?_
        have w := w _ rfl
        refine w_aload_n dX12_see_63 rfl ?_
        refine w_getp dX12_see_64 lk_RX12_97 e1 rfl ?_
        refine w_iload dX12_see_67 rfl ?_
        refine w_iconst (v := 1) dX12_see_69 rfl ?_
        refine w_iadd dX12_see_70 ?_
        refine w_iload_n dX12_see_71 rfl ?_
        obtain ⟨n8, ln8, w⟩ := w
        obtain ⟨e6, w⟩ := w
        refine w_iast dX12_see_72 ln8 e6 ?_
        have w := w _ rfl
        refine w_aload_n dX12_see_73 rfl ?_
        refine w_getp dX12_see_74 lk_RX12_97 e1 rfl ?_
        refine w_iload dX12_see_77 rfl ?_
        refine w_iconst (v := 2) dX12_see_79 rfl ?_
        refine w_iadd dX12_see_80 ?_
        refine w_iload_n dX12_see_81 rfl ?_
        refine w_if_eq (tgt := 89) dX12_see_82 rfl (fun c => ?_) (fun c => ?_)
        · rw [if_pos c] at w
          refine w_iconst (v := 0) dX12_see_89 rfl ?_
          obtain ⟨n10, ln10, w⟩ := w
          obtain ⟨e8, w⟩ := w
          refine w_iast dX12_see_90 ln10 e8 ?_
          have w := w _ rfl
          refine w_aload_n dX12_see_91 rfl ?_
          refine w_getp dX12_see_92 lk_RX12_97 e1 rfl ?_
          refine w_sipush (v := 320) dX12_see_95 rfl ?_
          refine w_dup2 dX12_see_98 rfl rfl ?_
          obtain ⟨n12, ln12, w⟩ := w
          obtain ⟨e10, w⟩ := w
          refine w_iald dX12_see_99 ln12 e10 ?_
          refine w_iconst (v := 1) dX12_see_100 rfl ?_
          refine w_iadd dX12_see_101 ?_
          refine w_iast dX12_see_102 ln12 e10 ?_
          have w := w _ rfl
          refine w_iconst (v := 1) dX12_see_103 rfl ?_
          exact w_ireturn dX12_see_104 rfl rfl ⟨Nat.le_refl _, Nat.le_refl _⟩ w
        · rw [if_neg c] at w
          refine w_iconst (v := 1) dX12_see_85 rfl ?_
          refine w_goto (tgt := 90) dX12_see_86 rfl ?_
          obtain ⟨n14, ln14, w⟩ := w
          obtain ⟨e8, w⟩ := w
          refine w_iast dX12_see_90 ln14 e8 ?_
          have w := w _ rfl
          refine w_aload_n dX12_see_91 rfl ?_
          refine w_getp dX12_see_92 lk_RX12_97 e1 rfl ?_
          refine w_sipush (v := 320) dX12_see_95 rfl ?_
          refine w_dup2 dX12_see_98 rfl rfl ?_
          obtain ⟨n16, ln16, w⟩ := w
          obtain ⟨e10, w⟩ := w
          refine w_iald dX12_see_99 ln16 e10 ?_
          refine w_iconst (v := 1) dX12_see_100 rfl ?_
          refine w_iadd dX12_see_101 ?_
          refine w_iast dX12_see_102 ln16 e10 ?_
          have w := w _ rfl
          refine w_iconst (v := 1) dX12_see_103 rfl ?_
          exact w_ireturn dX12_see_104 rfl rfl ⟨Nat.le_refl _, Nat.le_refl _⟩ w
      · rw [if_pos c] at w
        refine w_iconst (v := 0) dX12_see_37 rfl ?_
        exact w_ireturn dX12_see_38 rfl rfl ⟨Nat.le_refl _, Nat.le_refl _⟩ w
set_option maxRecDepth 20000 in
set_option maxHeartbeats 4000000 in
theorem x_X12_whoNow {G : pm_G} {d : Nat} {post : pm_PT} {h : pm_H} {l0 : Nat} (w :
    (h.1[l0]? = some (0, 11)) ∧
    cv G d m_X12_laysKinds [.ref l0] h fun h2 =>
    Wp G (m_X12_whoNow, d + 1, 0, 0, post) (0, 0) 8 [.ref l0, .int 0, .int 0, .null, .null, .null] [] h2) :
    Wp G (m_X12_whoNow, d + 1, 0, 0, post) (0, 0) 0 [.ref l0, .null, .null, .null, .null, .null] [] h := by
  refine w_aload_n dX12_whoNow_0 rfl ?_
  obtain ⟨e1, w⟩ := w
  refine w_callV (As := []) (st := []) dX12_whoNow_1 mt_X12_laysKinds g_1924 g_1926 g_129 rfl e1 rfl rfl (Nat.le_of_ble_eq_true rfl) (Nat.le_refl _) ⟨Nat.le_refl _, Nat.le_refl _⟩ w ?_
  rintro v h2 ⟨rfl, w⟩
  refine w_iconst (v := 0) dX12_whoNow_4 rfl ?_
  refine v_istore_n (l' := [.ref l0, .int 0, .null, .null, .null, .null]) dX12_whoNow_5 (Nat.le_of_ble_eq_true rfl) rfl ?_
  refine w_iconst (v := 0) dX12_whoNow_6 rfl ?_
  refine v_istore_n (l' := [.ref l0, .int 0, .int 0, .null, .null, .null]) dX12_whoNow_7 (Nat.le_of_ble_eq_true rfl) rfl ?_
  exact w
set_option maxRecDepth 20000 in
set_option maxHeartbeats 4000000 in
theorem x_X12_whoNow_8 {G : pm_G} {d : Nat} {post : pm_PT} {h : pm_H} {l0 : Nat} {l1 : Int32} {l2 : Int32} (w :
    (h.1[l0]? = some (0, 11)) ∧
    ci G d m_X12_heaps [.ref l0] h fun r1 h2 =>
    if r1 ≤ l2 then (
      post (some (.int l1)) h2
    ) else (
      Wp G (m_X12_whoNow, d + 1, 0, 0, post) (0, 0) 21 [.ref l0, .int l1, .int l2, .int 1, .int 0, .null] [] h2
    )) :
    Wp G (m_X12_whoNow, d + 1, 0, 0, post) (0, 0) 8 [.ref l0, .int l1, .int l2, .null, .null, .null] [] h := by
  refine w_iload_n dX12_whoNow_8 rfl ?_
  refine w_aload_n dX12_whoNow_9 rfl ?_
  obtain ⟨e1, w⟩ := w
  refine w_callV (As := []) (st := [.int l2]) dX12_whoNow_10 mt_X12_heaps g_1679 g_1681 g_98 rfl e1 rfl rfl (Nat.le_of_ble_eq_true rfl) (Nat.le_refl _) ⟨Nat.le_refl _, Nat.le_refl _⟩ w ?_
  rintro v h2 ⟨r1, rfl, w⟩
  refine w_ic_ge (tgt := 135) dX12_whoNow_13 rfl (fun c => ?_) (fun c => ?_)
  · rw [if_pos c] at w
    refine w_iload_n dX12_whoNow_135 rfl ?_
    exact w_ireturn dX12_whoNow_136 rfl rfl ⟨Nat.le_refl _, Nat.le_refl _⟩ w
  · rw [if_neg c] at w
    refine w_iconst (v := 1) dX12_whoNow_16 rfl ?_
    refine v_istore_n (l' := [.ref l0, .int l1, .int l2, .int 1, .null, .null]) dX12_whoNow_17 (Nat.le_of_ble_eq_true rfl) rfl ?_
    refine w_iconst (v := 0) dX12_whoNow_18 rfl ?_
    refine v_istore (l' := [.ref l0, .int l1, .int l2, .int 1, .int 0, .null]) dX12_whoNow_19 (Nat.le_of_ble_eq_true rfl) rfl ?_
    exact w
set_option maxRecDepth 20000 in
set_option maxHeartbeats 4000000 in
theorem x_X12_whoNow_21 {G : pm_G} {d : Nat} {post : pm_PT} {h : pm_H} {l0 : Nat} {l1 : Int32} {l2 : Int32} {l3 : Int32} {l4 : Int32} (w :
    (h.1[l0]? = some (0, 11)) ∧
    ∃ n1 : Nat, h.1[gp h l0 17]? = some (1, n1) ∧
    (vp_in 320 n1) ∧
    if (gi h (gp h l0 17) (320 : Int32).toNatClampNeg) ≤ l4 then (
      if l3 = 0 then (
        Wp G (m_X12_whoNow, d + 1, 0, 0, post) (0, 0) 8 [.ref l0, .int (l1 ||| 0), .int (l2 + 1), .null, .null, .null] [] h
      ) else (
        Wp G (m_X12_whoNow, d + 1, 0, 0, post) (0, 0) 8 [.ref l0, .int (l1 ||| ((1 : Int32) <<< (l2 &&& 31))), .int (l2 + 1), .null, .null, .null] [] h
      )
    ) else (
      if l3 = 0 then (
        Wp G (m_X12_whoNow, d + 1, 0, 0, post) (0, 0) 21 [.ref l0, .int l1, .int l2, .int 0, .int (l4 + 1), .null] [] h
      ) else (
        (vp_in (321 + (3 * l4)) n1) ∧
        ∃ n2 : Nat, h.1[gp h l0 23]? = some (1, n2) ∧
        (vp_in ((10 * l2) + (gi h (gp h l0 17) (321 + (3 * l4) : Int32).toNatClampNeg)) n2) ∧
        (vp_in ((321 + (3 * l4)) + 1) n1) ∧
        if (gi h (gp h l0 23) ((10 * l2) + (gi h (gp h l0 17) (321 + (3 * l4) : Int32).toNatClampNeg) : Int32).toNatClampNeg) = (gi h (gp h l0 17) ((321 + (3 * l4)) + 1 : Int32).toNatClampNeg) then (
          (vp_in ((321 + (3 * l4)) + 2) n1) ∧
          if (gi h (gp h l0 17) ((321 + (3 * l4)) + 2 : Int32).toNatClampNeg) = 1 then (
            Wp G (m_X12_whoNow, d + 1, 0, 0, post) (0, 0) 21 [.ref l0, .int l1, .int l2, .int 1, .int (l4 + 1), .null] [] h
          ) else (
            Wp G (m_X12_whoNow, d + 1, 0, 0, post) (0, 0) 21 [.ref l0, .int l1, .int l2, .int 0, .int (l4 + 1), .null] [] h
          )
        ) else (
          (vp_in ((321 + (3 * l4)) + 2) n1) ∧
          if (gi h (gp h l0 17) ((321 + (3 * l4)) + 2 : Int32).toNatClampNeg) = 1 then (
            Wp G (m_X12_whoNow, d + 1, 0, 0, post) (0, 0) 21 [.ref l0, .int l1, .int l2, .int 0, .int (l4 + 1), .null] [] h
          ) else (
            Wp G (m_X12_whoNow, d + 1, 0, 0, post) (0, 0) 21 [.ref l0, .int l1, .int l2, .int 1, .int (l4 + 1), .null] [] h
          )
        )
      )
    )) :
    Wp G (m_X12_whoNow, d + 1, 0, 0, post) (0, 0) 21 [.ref l0, .int l1, .int l2, .int l3, .int l4, .null] [] h := by
  refine w_iload dX12_whoNow_21 rfl ?_
  refine w_aload_n dX12_whoNow_23 rfl ?_
  obtain ⟨e1, w⟩ := w
  refine w_getp dX12_whoNow_24 lk_RX12_97 e1 rfl ?_
  refine w_sipush (v := 320) dX12_whoNow_27 rfl ?_
  obtain ⟨n1, ln1, w⟩ := w
  obtain ⟨e3, w⟩ := w
  refine w_iald dX12_whoNow_30 ln1 e3 ?_
  refine w_ic_ge (tgt := 115) dX12_whoNow_31 rfl (fun c => ?_) (fun c => ?_)
  · rw [if_pos c] at w
    refine w_iload_n dX12_whoNow_115 rfl ?_
    refine w_iload_n dX12_whoNow_116 rfl ?_
    refine w_if_eq (tgt := 126) dX12_whoNow_117 rfl (fun c => ?_) (fun c => ?_)
    · rw [if_pos c] at w
      refine w_iconst (v := 0) dX12_whoNow_126 rfl ?_
      refine w_ior dX12_whoNow_127 ?_
      refine v_istore_n (l' := [.ref l0, .int (l1 ||| 0), .int l2, .int l3, .int l4, .null]) dX12_whoNow_128 (Nat.le_of_ble_eq_true rfl) rfl ?_
      refine v_iinc (l' := [.ref l0, .int (l1 ||| 0), .int (l2 + 1), .int l3, .int l4, .null]) (v := l2 + 1) dX12_whoNow_129 rfl rfl (Nat.le_of_ble_eq_true rfl) rfl ?_
      refine w_goto (tgt := 8) dX12_whoNow_132 rfl ?_
      exact w_drop (l' := [.ref l0, .int (l1 ||| 0), .int (l2 + 1), .null, .null, .null]) ⟨Or.inr rfl, Or.inr rfl, Or.inr rfl, Or.inl rfl, Or.inl rfl, Or.inl rfl, trivial⟩ w
    · rw [if_neg c] at w
      refine w_iconst (v := 1) dX12_whoNow_120 rfl ?_
      refine w_iload_n dX12_whoNow_121 rfl ?_
      refine w_ishl dX12_whoNow_122 ?_
      refine w_goto (tgt := 127) dX12_whoNow_123 rfl ?_
      refine w_ior dX12_whoNow_127 ?_
      refine v_istore_n (l' := [.ref l0, .int (l1 ||| ((1 : Int32) <<< (l2 &&& 31))), .int l2, .int l3, .int l4, .null]) dX12_whoNow_128 (Nat.le_of_ble_eq_true rfl) rfl ?_
      refine v_iinc (l' := [.ref l0, .int (l1 ||| ((1 : Int32) <<< (l2 &&& 31))), .int (l2 + 1), .int l3, .int l4, .null]) (v := l2 + 1) dX12_whoNow_129 rfl rfl (Nat.le_of_ble_eq_true rfl) rfl ?_
      refine w_goto (tgt := 8) dX12_whoNow_132 rfl ?_
      exact w_drop (l' := [.ref l0, .int (l1 ||| ((1 : Int32) <<< (l2 &&& 31))), .int (l2 + 1), .null, .null, .null]) ⟨Or.inr rfl, Or.inr rfl, Or.inr rfl, Or.inl rfl, Or.inl rfl, Or.inl rfl, trivial⟩ w
  · rw [if_neg c] at w
    refine w_sipush (v := 321) dX12_whoNow_34 rfl ?_
    refine w_iconst (v := 3) dX12_whoNow_37 rfl ?_
    refine w_iload dX12_whoNow_38 rfl ?_
    refine w_imul dX12_whoNow_40 ?_
    refine w_iadd dX12_whoNow_41 ?_
    refine v_istore (l' := [.ref l0, .int l1, .int l2, .int l3, .int l4, .int (321 + (3 * l4))]) dX12_whoNow_42 (Nat.le_of_ble_eq_true rfl) rfl ?_
    refine w_iload_n dX12_whoNow_44 rfl ?_
    refine w_if_eq (tgt := 107) dX12_whoNow_45 rfl (fun c => ?_) (fun c => ?_)
    · rw [if_pos c] at w
      refine w_iconst (v := 0) dX12_whoNow_107 rfl ?_
      refine v_istore_n (l' := [.ref l0, .int l1, .int l2, .int 0, .int l4, .int (321 + (3 * l4))]) dX12_whoNow_108 (Nat.le_of_ble_eq_true rfl) rfl ?_
      refine v_iinc (l' := [.ref l0, .int l1, .int l2, .int 0, .int (l4 + 1), .int (321 + (3 * l4))]) (v := l4 + 1) dX12_whoNow_109 rfl rfl (Nat.le_of_ble_eq_true rfl) rfl ?_
      refine w_goto (tgt := 21) dX12_whoNow_112 rfl ?_
      exact w_drop (l' := [.ref l0, .int l1, .int l2, .int 0, .int (l4 + 1), .null]) ⟨Or.inr rfl, Or.inr rfl, Or.inr rfl, Or.inr rfl, Or.inr rfl, Or.inl rfl, trivial⟩ w
    · rw [if_neg c] at w
      refine w_aload_n dX12_whoNow_48 rfl ?_
      refine w_getp dX12_whoNow_49 lk_RX12_110 e1 rfl ?_
      refine w_bipush (v := 10) dX12_whoNow_52 rfl ?_
      refine w_iload_n dX12_whoNow_54 rfl ?_
      refine w_imul dX12_whoNow_55 ?_
      refine w_aload_n dX12_whoNow_56 rfl ?_
      refine w_getp dX12_whoNow_57 lk_RX12_97 e1 rfl ?_
      refine w_iload dX12_whoNow_60 rfl ?_
      obtain ⟨e4, w⟩ := w
      refine w_iald dX12_whoNow_62 ln1 e4 ?_
      refine w_iadd dX12_whoNow_63 ?_
      obtain ⟨n2, ln2, w⟩ := w
      obtain ⟨e6, w⟩ := w
      refine w_iald dX12_whoNow_64 ln2 e6 ?_
      refine w_aload_n dX12_whoNow_65 rfl ?_
      refine w_getp dX12_whoNow_66 lk_RX12_97 e1 rfl ?_
      refine w_iload dX12_whoNow_69 rfl ?_
      refine w_iconst (v := 1) dX12_whoNow_71 rfl ?_
      refine w_iadd dX12_whoNow_72 ?_
      obtain ⟨e7, w⟩ := w
      refine w_iald dX12_whoNow_73 ln1 e7 ?_
      refine w_ic_ne (tgt := 81) dX12_whoNow_74 rfl (fun c => ?_) (fun c => ?_)
      · rw [if_neg c] at w
        refine w_iconst (v := 0) dX12_whoNow_81 rfl ?_
        refine w_aload_n dX12_whoNow_82 rfl ?_
        refine w_getp dX12_whoNow_83 lk_RX12_97 e1 rfl ?_
        refine w_iload dX12_whoNow_86 rfl ?_
        refine w_iconst (v := 2) dX12_whoNow_88 rfl ?_
        refine w_iadd dX12_whoNow_89 ?_
        obtain ⟨e8, w⟩ := w
        refine w_iald dX12_whoNow_90 ln1 e8 ?_
        refine w_iconst (v := 1) dX12_whoNow_91 rfl ?_
        refine w_ic_ne (tgt := 99) dX12_whoNow_92 rfl (fun c => ?_) (fun c => ?_)
        · rw [if_neg c] at w
          refine w_iconst (v := 0) dX12_whoNow_99 rfl ?_
          refine w_ic_ne (tgt := 107) dX12_whoNow_100 rfl (fun c => ?_) (fun c => ?_)
          · exact absurd c (by decide)
          · refine w_iconst (v := 1) dX12_whoNow_103 rfl ?_
            refine w_goto (tgt := 108) dX12_whoNow_104 rfl ?_
            refine v_istore_n (l' := [.ref l0, .int l1, .int l2, .int 1, .int l4, .int (321 + (3 * l4))]) dX12_whoNow_108 (Nat.le_of_ble_eq_true rfl) rfl ?_
            refine v_iinc (l' := [.ref l0, .int l1, .int l2, .int 1, .int (l4 + 1), .int (321 + (3 * l4))]) (v := l4 + 1) dX12_whoNow_109 rfl rfl (Nat.le_of_ble_eq_true rfl) rfl ?_
            refine w_goto (tgt := 21) dX12_whoNow_112 rfl ?_
            exact w_drop (l' := [.ref l0, .int l1, .int l2, .int 1, .int (l4 + 1), .null]) ⟨Or.inr rfl, Or.inr rfl, Or.inr rfl, Or.inr rfl, Or.inr rfl, Or.inl rfl, trivial⟩ w
        · rw [if_pos c] at w
          refine w_iconst (v := 1) dX12_whoNow_95 rfl ?_
          refine w_goto (tgt := 100) dX12_whoNow_96 rfl ?_
          refine w_ic_ne (tgt := 107) dX12_whoNow_100 rfl (fun c => ?_) (fun c => ?_)
          · refine w_iconst (v := 0) dX12_whoNow_107 rfl ?_
            refine v_istore_n (l' := [.ref l0, .int l1, .int l2, .int 0, .int l4, .int (321 + (3 * l4))]) dX12_whoNow_108 (Nat.le_of_ble_eq_true rfl) rfl ?_
            refine v_iinc (l' := [.ref l0, .int l1, .int l2, .int 0, .int (l4 + 1), .int (321 + (3 * l4))]) (v := l4 + 1) dX12_whoNow_109 rfl rfl (Nat.le_of_ble_eq_true rfl) rfl ?_
            refine w_goto (tgt := 21) dX12_whoNow_112 rfl ?_
            exact w_drop (l' := [.ref l0, .int l1, .int l2, .int 0, .int (l4 + 1), .null]) ⟨Or.inr rfl, Or.inr rfl, Or.inr rfl, Or.inr rfl, Or.inr rfl, Or.inl rfl, trivial⟩ w
          · exact absurd c (by decide)
      · rw [if_pos c] at w
        refine w_iconst (v := 1) dX12_whoNow_77 rfl ?_
        refine w_goto (tgt := 82) dX12_whoNow_78 rfl ?_
        refine w_aload_n dX12_whoNow_82 rfl ?_
        refine w_getp dX12_whoNow_83 lk_RX12_97 e1 rfl ?_
        refine w_iload dX12_whoNow_86 rfl ?_
        refine w_iconst (v := 2) dX12_whoNow_88 rfl ?_
        refine w_iadd dX12_whoNow_89 ?_
        obtain ⟨e8, w⟩ := w
        refine w_iald dX12_whoNow_90 ln1 e8 ?_
        refine w_iconst (v := 1) dX12_whoNow_91 rfl ?_
        refine w_ic_ne (tgt := 99) dX12_whoNow_92 rfl (fun c => ?_) (fun c => ?_)
        · rw [if_neg c] at w
          refine w_iconst (v := 0) dX12_whoNow_99 rfl ?_
          refine w_ic_ne (tgt := 107) dX12_whoNow_100 rfl (fun c => ?_) (fun c => ?_)
          · refine w_iconst (v := 0) dX12_whoNow_107 rfl ?_
            refine v_istore_n (l' := [.ref l0, .int l1, .int l2, .int 0, .int l4, .int (321 + (3 * l4))]) dX12_whoNow_108 (Nat.le_of_ble_eq_true rfl) rfl ?_
            refine v_iinc (l' := [.ref l0, .int l1, .int l2, .int 0, .int (l4 + 1), .int (321 + (3 * l4))]) (v := l4 + 1) dX12_whoNow_109 rfl rfl (Nat.le_of_ble_eq_true rfl) rfl ?_
            refine w_goto (tgt := 21) dX12_whoNow_112 rfl ?_
            exact w_drop (l' := [.ref l0, .int l1, .int l2, .int 0, .int (l4 + 1), .null]) ⟨Or.inr rfl, Or.inr rfl, Or.inr rfl, Or.inr rfl, Or.inr rfl, Or.inl rfl, trivial⟩ w
          · exact absurd c (by decide)
        · rw [if_pos c] at w
          refine w_iconst (v := 1) dX12_whoNow_95 rfl ?_
          refine w_goto (tgt := 100) dX12_whoNow_96 rfl ?_
          refine w_ic_ne (tgt := 107) dX12_whoNow_100 rfl (fun c => ?_) (fun c => ?_)
          · exact absurd c (by decide)
          · refine w_iconst (v := 1) dX12_whoNow_103 rfl ?_
            refine w_goto (tgt := 108) dX12_whoNow_104 rfl ?_
            refine v_istore_n (l' := [.ref l0, .int l1, .int l2, .int 1, .int l4, .int (321 + (3 * l4))]) dX12_whoNow_108 (Nat.le_of_ble_eq_true rfl) rfl ?_
            refine v_iinc (l' := [.ref l0, .int l1, .int l2, .int 1, .int (l4 + 1), .int (321 + (3 * l4))]) (v := l4 + 1) dX12_whoNow_109 rfl rfl (Nat.le_of_ble_eq_true rfl) rfl ?_
            refine w_goto (tgt := 21) dX12_whoNow_112 rfl ?_
            exact w_drop (l' := [.ref l0, .int l1, .int l2, .int 1, .int (l4 + 1), .null]) ⟨Or.inr rfl, Or.inr rfl, Or.inr rfl, Or.inr rfl, Or.inr rfl, Or.inl rfl, trivial⟩ w
set_option maxRecDepth 20000 in
set_option maxHeartbeats 4000000 in
theorem x_X12_who {G : pm_G} {d : Nat} {post : pm_PT} {h : pm_H} {l0 : Nat} (w :
    (h.1[l0]? = some (0, 11)) ∧
    ∀ h1 : pm_H, h1 = si h l0 0 0 →
    ∀ h2 : pm_H, h2 = si h1 l0 19 ((gi h1 l0 19) + 1) →
    ci G d m_X12_whoNow [.ref l0] h2 fun r3 h4 =>
    post (some (.int r3)) h4) :
    Wp G (m_X12_who, d + 1, 0, 0, post) (0, 0) 0 [.ref l0] [] h := by
  refine w_aload_n dX12_who_0 rfl ?_
  refine w_iconst (v := 0) dX12_who_1 rfl ?_
  obtain ⟨e1, w⟩ := w
  refine w_puti dX12_who_2 lk_RX12_1 e1 rfl (Or.inl rfl) ?_
  have w := w _ rfl
  refine w_aload_n dX12_who_5 rfl ?_
  refine w_dup dX12_who_6 rfl ?_
  refine w_geti dX12_who_7 lk_RX12_292 e1 rfl ?_
  refine w_iconst (v := 1) dX12_who_10 rfl ?_
  refine w_iadd dX12_who_11 ?_
  refine w_puti dX12_who_12 lk_RX12_292 e1 rfl (Or.inl rfl) ?_
  have w := w _ rfl
  refine w_aload_n dX12_who_15 rfl ?_
  refine w_callV (As := []) (st := []) dX12_who_16 mt_X12_whoNow g_1920 g_1922 g_128 rfl e1 rfl rfl (Nat.le_of_ble_eq_true rfl) (Nat.le_refl _) ⟨Nat.le_refl _, Nat.le_refl _⟩ w ?_
  rintro v h4 ⟨r3, rfl, w⟩
  exact w_ireturn dX12_who_19 rfl rfl ⟨Nat.le_refl _, Nat.le_refl _⟩ w
set_option maxRecDepth 20000 in
set_option maxHeartbeats 4000000 in
theorem x_X12_ones {G : pm_G} {d : Nat} {post : pm_PT} {h : pm_H} {l0 : Int32} (w :
    Wp G (m_X12_ones, d + 1, 0, 0, post) (0, 0) 4 [.int l0, .int 0, .int 0] [] h) :
    Wp G (m_X12_ones, d + 1, 0, 0, post) (0, 0) 0 [.int l0, .null, .null] [] h := by
  refine w_iconst (v := 0) dX12_ones_0 rfl ?_
  refine v_istore_n (l' := [.int l0, .int 0, .null]) dX12_ones_1 (Nat.le_of_ble_eq_true rfl) rfl ?_
  refine w_iconst (v := 0) dX12_ones_2 rfl ?_
  refine v_istore_n (l' := [.int l0, .int 0, .int 0]) dX12_ones_3 (Nat.le_of_ble_eq_true rfl) rfl ?_
  exact w
set_option maxRecDepth 20000 in
set_option maxHeartbeats 4000000 in
theorem x_X12_ones_4 {G : pm_G} {d : Nat} {post : pm_PT} {h : pm_H} {l0 : Int32} {l1 : Int32} {l2 : Int32} (w :
    if 30 ≤ l2 then (
      post (some (.int l1)) h
    ) else (
      Wp G (m_X12_ones, d + 1, 0, 0, post) (0, 0) 4 [.int l0, .int (l1 + ((l0 >>> (l2 &&& 31)) &&& 1)), .int (l2 + 1)] [] h
    )) :
    Wp G (m_X12_ones, d + 1, 0, 0, post) (0, 0) 4 [.int l0, .int l1, .int l2] [] h := by
  refine w_iload_n dX12_ones_4 rfl ?_
  refine w_bipush (v := 30) dX12_ones_5 rfl ?_
  refine w_ic_ge (tgt := 24) dX12_ones_7 rfl (fun c => ?_) (fun c => ?_)
  · rw [if_pos c] at w
    refine w_iload_n dX12_ones_24 rfl ?_
    exact w_ireturn dX12_ones_25 rfl rfl ⟨Nat.le_refl _, Nat.le_refl _⟩ w
  · rw [if_neg c] at w
    refine w_iload_n dX12_ones_10 rfl ?_
    refine w_iload_n dX12_ones_11 rfl ?_
    refine w_iload_n dX12_ones_12 rfl ?_
    refine w_ishr dX12_ones_13 ?_
    refine w_iconst (v := 1) dX12_ones_14 rfl ?_
    refine w_iand dX12_ones_15 ?_
    refine w_iadd dX12_ones_16 ?_
    refine v_istore_n (l' := [.int l0, .int (l1 + ((l0 >>> (l2 &&& 31)) &&& 1)), .int l2]) dX12_ones_17 (Nat.le_of_ble_eq_true rfl) rfl ?_
    refine v_iinc (l' := [.int l0, .int (l1 + ((l0 >>> (l2 &&& 31)) &&& 1)), .int (l2 + 1)]) (v := l2 + 1) dX12_ones_18 rfl rfl (Nat.le_of_ble_eq_true rfl) rfl ?_
    refine w_goto (tgt := 4) dX12_ones_21 rfl ?_
    exact w
set_option maxRecDepth 20000 in
set_option maxHeartbeats 4000000 in
theorem x_X12_ask {G : pm_G} {d : Nat} {post : pm_PT} {h : pm_H} {l0 : Nat} (w :
    (h.1[l0]? = some (0, 11)) ∧
    ∀ h1 : pm_H, h1 = si h l0 0 0 →
    ∀ h2 : pm_H, h2 = si h1 l0 19 ((gi h1 l0 19) + 1) →
    ci G d m_X12_whoNow [.ref l0] h2 fun r3 h4 =>
    ci G d m_X12_ones [.int r3] h4 fun r5 h6 =>
    Wp G (m_X12_ask, d + 1, 0, 0, post) (0, 0) 30 [.ref l0, .int r3, .int (-1), .int r5, .int 0, .null, .null] [] h6) :
    Wp G (m_X12_ask, d + 1, 0, 0, post) (0, 0) 0 [.ref l0, .null, .null, .null, .null, .null, .null] [] h := by
  refine w_aload_n dX12_ask_0 rfl ?_
  refine w_iconst (v := 0) dX12_ask_1 rfl ?_
  obtain ⟨e1, w⟩ := w
  refine w_puti dX12_ask_2 lk_RX12_1 e1 rfl (Or.inl rfl) ?_
  have w := w _ rfl
  refine w_aload_n dX12_ask_5 rfl ?_
  refine w_dup dX12_ask_6 rfl ?_
  refine w_geti dX12_ask_7 lk_RX12_292 e1 rfl ?_
  refine w_iconst (v := 1) dX12_ask_10 rfl ?_
  refine w_iadd dX12_ask_11 ?_
  refine w_puti dX12_ask_12 lk_RX12_292 e1 rfl (Or.inl rfl) ?_
  have w := w _ rfl
  refine w_aload_n dX12_ask_15 rfl ?_
  refine w_callV (As := []) (st := []) dX12_ask_16 mt_X12_whoNow g_1920 g_1922 g_128 rfl e1 rfl rfl (Nat.le_of_ble_eq_true rfl) (Nat.le_refl _) ⟨Nat.le_refl _, Nat.le_refl _⟩ w ?_
  rintro v h4 ⟨r3, rfl, w⟩
  refine v_istore_n (l' := [.ref l0, .int r3, .null, .null, .null, .null, .null]) dX12_ask_19 (Nat.le_of_ble_eq_true rfl) rfl ?_
  refine w_iconst (v := (-1)) dX12_ask_20 rfl ?_
  refine v_istore_n (l' := [.ref l0, .int r3, .int (-1), .null, .null, .null, .null]) dX12_ask_21 (Nat.le_of_ble_eq_true rfl) rfl ?_
  refine w_iload_n dX12_ask_22 rfl ?_
  refine w_callS (As := [.int r3]) (st := []) dX12_ask_23 mt_X12_ones g_1932 g_1933 rfl rfl (Nat.le_of_ble_eq_true rfl) (Nat.le_refl _) ⟨Nat.le_refl _, Nat.le_refl _⟩ w ?_
  rintro v h6 ⟨r5, rfl, w⟩
  refine v_istore_n (l' := [.ref l0, .int r3, .int (-1), .int r5, .null, .null, .null]) dX12_ask_26 (Nat.le_of_ble_eq_true rfl) rfl ?_
  refine w_iconst (v := 0) dX12_ask_27 rfl ?_
  refine v_istore (l' := [.ref l0, .int r3, .int (-1), .int r5, .int 0, .null, .null]) dX12_ask_28 (Nat.le_of_ble_eq_true rfl) rfl ?_
  exact w
set_option maxRecDepth 20000 in
set_option maxHeartbeats 4000000 in
theorem x_X12_ask_30 {G : pm_G} {d : Nat} {post : pm_PT} {h : pm_H} {l0 : Nat} {l1 : Int32} {l2 : Int32} {l3 : Int32} {l4 : Int32} (w :
    if 40 ≤ l4 then (
      post (some (.int l2)) h
    ) else (
      Wp G (m_X12_ask, d + 1, 0, 0, post) (0, 0) 43 [.ref l0, .int l1, .int l2, .int l3, .int l4, .int 0, .int 0] [] h
    )) :
    Wp G (m_X12_ask, d + 1, 0, 0, post) (0, 0) 30 [.ref l0, .int l1, .int l2, .int l3, .int l4, .null, .null] [] h := by
  refine w_iload dX12_ask_30 rfl ?_
  refine w_bipush (v := 40) dX12_ask_32 rfl ?_
  refine w_ic_ge (tgt := 158) dX12_ask_34 rfl (fun c => ?_) (fun c => ?_)
  · rw [if_pos c] at w
    refine w_iload_n dX12_ask_158 rfl ?_
    exact w_ireturn dX12_ask_159 rfl rfl ⟨Nat.le_refl _, Nat.le_refl _⟩ w
  · rw [if_neg c] at w
    refine w_iconst (v := 0) dX12_ask_37 rfl ?_
    refine v_istore (l' := [.ref l0, .int l1, .int l2, .int l3, .int l4, .int 0, .null]) dX12_ask_38 (Nat.le_of_ble_eq_true rfl) rfl ?_
    refine w_iconst (v := 0) dX12_ask_40 rfl ?_
    refine v_istore (l' := [.ref l0, .int l1, .int l2, .int l3, .int l4, .int 0, .int 0]) dX12_ask_41 (Nat.le_of_ble_eq_true rfl) rfl ?_
    exact w
set_option maxRecDepth 20000 in
set_option maxHeartbeats 4000000 in
theorem x_X12_ask_43 {G : pm_G} {d : Nat} {post : pm_PT} {h : pm_H} {l0 : Nat} {l1 : Int32} {l2 : Int32} {l3 : Int32} {l4 : Int32} {l5 : Int32} {l6 : Int32} (w :
    (h.1[l0]? = some (0, 11)) ∧
    ci G d m_X12_heaps [.ref l0] h fun r1 h2 =>
    if r1 ≤ l6 then (
      ci G d m_X12_ones [.int l1] h2 fun r3 h4 =>
      if l5 ≤ (r3 - l5) then (
        ci G d m_X12_ones [.int l1] h4 fun r5 h6 =>
        if l3 ≤ (r5 - l5) then (
          if l3 ≤ (r5 - l5) then (
            Wp G (m_X12_ask, d + 1, 0, 0, post) (0, 0) 30 [.ref l0, .int l1, .int l2, .int l3, .int (l4 + 1), .null, .null] [] h6
          ) else (
            Wp G (m_X12_ask, d + 1, 0, 0, post) (0, 0) 30 [.ref l0, .int l1, .int l2, .int (r5 - l5), .int (l4 + 1), .null, .null] [] h6
          )
        ) else (
          if l3 ≤ (r5 - l5) then (
            Wp G (m_X12_ask, d + 1, 0, 0, post) (0, 0) 30 [.ref l0, .int l1, .int l4, .int l3, .int (l4 + 1), .null, .null] [] h6
          ) else (
            Wp G (m_X12_ask, d + 1, 0, 0, post) (0, 0) 30 [.ref l0, .int l1, .int l4, .int (r5 - l5), .int (l4 + 1), .null, .null] [] h6
          )
        )
      ) else (
        if l3 ≤ l5 then (
          if l3 ≤ l5 then (
            Wp G (m_X12_ask, d + 1, 0, 0, post) (0, 0) 30 [.ref l0, .int l1, .int l2, .int l3, .int (l4 + 1), .null, .null] [] h4
          ) else (
            Wp G (m_X12_ask, d + 1, 0, 0, post) (0, 0) 30 [.ref l0, .int l1, .int l2, .int l5, .int (l4 + 1), .null, .null] [] h4
          )
        ) else (
          if l3 ≤ l5 then (
            Wp G (m_X12_ask, d + 1, 0, 0, post) (0, 0) 30 [.ref l0, .int l1, .int l4, .int l3, .int (l4 + 1), .null, .null] [] h4
          ) else (
            Wp G (m_X12_ask, d + 1, 0, 0, post) (0, 0) 30 [.ref l0, .int l1, .int l4, .int l5, .int (l4 + 1), .null, .null] [] h4
          )
        )
      )
    ) else (
      if ((l1 >>> (l6 &&& 31)) &&& 1) = 1 then (
        (h2.1[l0]? = some (0, 11)) ∧
        ∃ n7 : Nat, h2.1[gp h2 l0 23]? = some (1, n7) ∧
        (vp_in ((10 * l6) + (l4 / 4)) n7) ∧
        if (gi h2 (gp h2 l0 23) ((10 * l6) + (l4 / 4) : Int32).toNatClampNeg) = (l4 - l4 / 4 * 4) then (
          Wp G (m_X12_ask, d + 1, 0, 0, post) (0, 0) 43 [.ref l0, .int l1, .int l2, .int l3, .int l4, .int (l5 + 1), .int (l6 + 1)] [] h2
        ) else (
          Wp G (m_X12_ask, d + 1, 0, 0, post) (0, 0) 43 [.ref l0, .int l1, .int l2, .int l3, .int l4, .int (l5 + 0), .int (l6 + 1)] [] h2
        )
      ) else (
        Wp G (m_X12_ask, d + 1, 0, 0, post) (0, 0) 43 [.ref l0, .int l1, .int l2, .int l3, .int l4, .int (l5 + 0), .int (l6 + 1)] [] h2
      )
    )) :
    Wp G (m_X12_ask, d + 1, 0, 0, post) (0, 0) 43 [.ref l0, .int l1, .int l2, .int l3, .int l4, .int l5, .int l6] [] h := by
  refine w_iload dX12_ask_43 rfl ?_
  refine w_aload_n dX12_ask_45 rfl ?_
  obtain ⟨e1, w⟩ := w
  refine w_callV (As := []) (st := [.int l6]) dX12_ask_46 mt_X12_heaps g_1679 g_1681 g_98 rfl e1 rfl rfl (Nat.le_of_ble_eq_true rfl) (Nat.le_refl _) ⟨Nat.le_refl _, Nat.le_refl _⟩ w ?_
  rintro v h2 ⟨r1, rfl, w⟩
  refine w_ic_ge (tgt := 100) dX12_ask_49 rfl (fun c => ?_) (fun c => ?_)
  · rw [if_pos c] at w
    refine w_iload dX12_ask_100 rfl ?_
    refine w_iload_n dX12_ask_102 rfl ?_
    refine w_callS (As := [.int l1]) (st := [.int l5]) dX12_ask_103 mt_X12_ones g_1932 g_1933 rfl rfl (Nat.le_of_ble_eq_true rfl) (Nat.le_refl _) ⟨Nat.le_refl _, Nat.le_refl _⟩ w ?_
    rintro v h4 ⟨r3, rfl, w⟩
    refine w_iload dX12_ask_106 rfl ?_
    refine w_isub dX12_ask_108 ?_
    refine w_ic_le (tgt := 117) dX12_ask_109 rfl (fun c => ?_) (fun c => ?_)
    · rw [if_pos c] at w
      refine w_iload_n dX12_ask_117 rfl ?_
      refine w_callS (As := [.int l1]) (st := []) dX12_ask_118 mt_X12_ones g_1932 g_1933 rfl rfl (Nat.le_of_ble_eq_true rfl) (Nat.le_refl _) ⟨Nat.le_refl _, Nat.le_refl _⟩ w ?_
      rintro v h6 ⟨r5, rfl, w⟩
      refine w_iload dX12_ask_121 rfl ?_
      refine w_isub dX12_ask_123 ?_
      refine v_istore (l' := [.ref l0, .int l1, .int l2, .int l3, .int l4, .int l5, .int (r5 - l5)]) dX12_ask_124 (Nat.le_of_ble_eq_true rfl) rfl ?_
      refine w_iload dX12_ask_126 rfl ?_
      refine w_iload_n dX12_ask_128 rfl ?_
      refine w_ic_ge (tgt := 137) dX12_ask_129 rfl (fun c => ?_) (fun c => ?_)
      · rw [if_pos c] at w
        refine w_iload_n dX12_ask_137 rfl ?_
        refine v_istore_n (l' := [.ref l0, .int l1, .int l2, .int l3, .int l4, .int l5, .int (r5 - l5)]) dX12_ask_138 (Nat.le_of_ble_eq_true rfl) rfl ?_
        refine w_iload dX12_ask_139 rfl ?_
        refine w_iload_n dX12_ask_141 rfl ?_
        refine w_ic_ge (tgt := 150) dX12_ask_142 rfl (fun c => ?_) (fun c => ?_)
        · rw [if_pos c] at w
          refine w_iload_n dX12_ask_150 rfl ?_
          refine v_istore_n (l' := [.ref l0, .int l1, .int l2, .int l3, .int l4, .int l5, .int (r5 - l5)]) dX12_ask_151 (Nat.le_of_ble_eq_true rfl) rfl ?_
          refine v_iinc (l' := [.ref l0, .int l1, .int l2, .int l3, .int (l4 + 1), .int l5, .int (r5 - l5)]) (v := l4 + 1) dX12_ask_152 rfl rfl (Nat.le_of_ble_eq_true rfl) rfl ?_
          refine w_goto (tgt := 30) dX12_ask_155 rfl ?_
          exact w_drop (l' := [.ref l0, .int l1, .int l2, .int l3, .int (l4 + 1), .null, .null]) ⟨Or.inr rfl, Or.inr rfl, Or.inr rfl, Or.inr rfl, Or.inr rfl, Or.inl rfl, Or.inl rfl, trivial⟩ w
        · rw [if_neg c] at w
          refine w_iload dX12_ask_145 rfl ?_
          refine w_goto (tgt := 151) dX12_ask_147 rfl ?_
          refine v_istore_n (l' := [.ref l0, .int l1, .int l2, .int (r5 - l5), .int l4, .int l5, .int (r5 - l5)]) dX12_ask_151 (Nat.le_of_ble_eq_true rfl) rfl ?_
          refine v_iinc (l' := [.ref l0, .int l1, .int l2, .int (r5 - l5), .int (l4 + 1), .int l5, .int (r5 - l5)]) (v := l4 + 1) dX12_ask_152 rfl rfl (Nat.le_of_ble_eq_true rfl) rfl ?_
          refine w_goto (tgt := 30) dX12_ask_155 rfl ?_
          exact w_drop (l' := [.ref l0, .int l1, .int l2, .int (r5 - l5), .int (l4 + 1), .null, .null]) ⟨Or.inr rfl, Or.inr rfl, Or.inr rfl, Or.inr rfl, Or.inr rfl, Or.inl rfl, Or.inl rfl, trivial⟩ w
      · rw [if_neg c] at w
        refine w_iload dX12_ask_132 rfl ?_
        refine w_goto (tgt := 138) dX12_ask_134 rfl ?_
        refine v_istore_n (l' := [.ref l0, .int l1, .int l4, .int l3, .int l4, .int l5, .int (r5 - l5)]) dX12_ask_138 (Nat.le_of_ble_eq_true rfl) rfl ?_
        refine w_iload dX12_ask_139 rfl ?_
        refine w_iload_n dX12_ask_141 rfl ?_
        refine w_ic_ge (tgt := 150) dX12_ask_142 rfl (fun c => ?_) (fun c => ?_)
        · rw [if_pos c] at w
          refine w_iload_n dX12_ask_150 rfl ?_
          refine v_istore_n (l' := [.ref l0, .int l1, .int l4, .int l3, .int l4, .int l5, .int (r5 - l5)]) dX12_ask_151 (Nat.le_of_ble_eq_true rfl) rfl ?_
          refine v_iinc (l' := [.ref l0, .int l1, .int l4, .int l3, .int (l4 + 1), .int l5, .int (r5 - l5)]) (v := l4 + 1) dX12_ask_152 rfl rfl (Nat.le_of_ble_eq_true rfl) rfl ?_
          refine w_goto (tgt := 30) dX12_ask_155 rfl ?_
          exact w_drop (l' := [.ref l0, .int l1, .int l4, .int l3, .int (l4 + 1), .null, .null]) ⟨Or.inr rfl, Or.inr rfl, Or.inr rfl, Or.inr rfl, Or.inr rfl, Or.inl rfl, Or.inl rfl, trivial⟩ w
        · rw [if_neg c] at w
          refine w_iload dX12_ask_145 rfl ?_
          refine w_goto (tgt := 151) dX12_ask_147 rfl ?_
          refine v_istore_n (l' := [.ref l0, .int l1, .int l4, .int (r5 - l5), .int l4, .int l5, .int (r5 - l5)]) dX12_ask_151 (Nat.le_of_ble_eq_true rfl) rfl ?_
          refine v_iinc (l' := [.ref l0, .int l1, .int l4, .int (r5 - l5), .int (l4 + 1), .int l5, .int (r5 - l5)]) (v := l4 + 1) dX12_ask_152 rfl rfl (Nat.le_of_ble_eq_true rfl) rfl ?_
          refine w_goto (tgt := 30) dX12_ask_155 rfl ?_
          exact w_drop (l' := [.ref l0, .int l1, .int l4, .int (r5 - l5), .int (l4 + 1), .null, .null]) ⟨Or.inr rfl, Or.inr rfl, Or.inr rfl, Or.inr rfl, Or.inr rfl, Or.inl rfl, Or.inl rfl, trivial⟩ w
    · rw [if_neg c] at w
      refine w_iload dX12_ask_112 rfl ?_
      refine w_goto (tgt := 124) dX12_ask_114 rfl ?_
      refine v_istore (l' := [.ref l0, .int l1, .int l2, .int l3, .int l4, .int l5, .int l5]) dX12_ask_124 (Nat.le_of_ble_eq_true rfl) rfl ?_
      refine w_iload dX12_ask_126 rfl ?_
      refine w_iload_n dX12_ask_128 rfl ?_
      refine w_ic_ge (tgt := 137) dX12_ask_129 rfl (fun c => ?_) (fun c => ?_)
      · rw [if_pos c] at w
        refine w_iload_n dX12_ask_137 rfl ?_
        refine v_istore_n (l' := [.ref l0, .int l1, .int l2, .int l3, .int l4, .int l5, .int l5]) dX12_ask_138 (Nat.le_of_ble_eq_true rfl) rfl ?_
        refine w_iload dX12_ask_139 rfl ?_
        refine w_iload_n dX12_ask_141 rfl ?_
        refine w_ic_ge (tgt := 150) dX12_ask_142 rfl (fun c => ?_) (fun c => ?_)
        · rw [if_pos c] at w
          refine w_iload_n dX12_ask_150 rfl ?_
          refine v_istore_n (l' := [.ref l0, .int l1, .int l2, .int l3, .int l4, .int l5, .int l5]) dX12_ask_151 (Nat.le_of_ble_eq_true rfl) rfl ?_
          refine v_iinc (l' := [.ref l0, .int l1, .int l2, .int l3, .int (l4 + 1), .int l5, .int l5]) (v := l4 + 1) dX12_ask_152 rfl rfl (Nat.le_of_ble_eq_true rfl) rfl ?_
          refine w_goto (tgt := 30) dX12_ask_155 rfl ?_
          exact w_drop (l' := [.ref l0, .int l1, .int l2, .int l3, .int (l4 + 1), .null, .null]) ⟨Or.inr rfl, Or.inr rfl, Or.inr rfl, Or.inr rfl, Or.inr rfl, Or.inl rfl, Or.inl rfl, trivial⟩ w
        · rw [if_neg c] at w
          refine w_iload dX12_ask_145 rfl ?_
          refine w_goto (tgt := 151) dX12_ask_147 rfl ?_
          refine v_istore_n (l' := [.ref l0, .int l1, .int l2, .int l5, .int l4, .int l5, .int l5]) dX12_ask_151 (Nat.le_of_ble_eq_true rfl) rfl ?_
          refine v_iinc (l' := [.ref l0, .int l1, .int l2, .int l5, .int (l4 + 1), .int l5, .int l5]) (v := l4 + 1) dX12_ask_152 rfl rfl (Nat.le_of_ble_eq_true rfl) rfl ?_
          refine w_goto (tgt := 30) dX12_ask_155 rfl ?_
          exact w_drop (l' := [.ref l0, .int l1, .int l2, .int l5, .int (l4 + 1), .null, .null]) ⟨Or.inr rfl, Or.inr rfl, Or.inr rfl, Or.inr rfl, Or.inr rfl, Or.inl rfl, Or.inl rfl, trivial⟩ w
      · rw [if_neg c] at w
        refine w_iload dX12_ask_132 rfl ?_
        refine w_goto (tgt := 138) dX12_ask_134 rfl ?_
        refine v_istore_n (l' := [.ref l0, .int l1, .int l4, .int l3, .int l4, .int l5, .int l5]) dX12_ask_138 (Nat.le_of_ble_eq_true rfl) rfl ?_
        refine w_iload dX12_ask_139 rfl ?_
        refine w_iload_n dX12_ask_141 rfl ?_
        refine w_ic_ge (tgt := 150) dX12_ask_142 rfl (fun c => ?_) (fun c => ?_)
        · rw [if_pos c] at w
          refine w_iload_n dX12_ask_150 rfl ?_
          refine v_istore_n (l' := [.ref l0, .int l1, .int l4, .int l3, .int l4, .int l5, .int l5]) dX12_ask_151 (Nat.le_of_ble_eq_true rfl) rfl ?_
          refine v_iinc (l' := [.ref l0, .int l1, .int l4, .int l3, .int (l4 + 1), .int l5, .int l5]) (v := l4 + 1) dX12_ask_152 rfl rfl (Nat.le_of_ble_eq_true rfl) rfl ?_
          refine w_goto (tgt := 30) dX12_ask_155 rfl ?_
          exact w_drop (l' := [.ref l0, .int l1, .int l4, .int l3, .int (l4 + 1), .null, .null]) ⟨Or.inr rfl, Or.inr rfl, Or.inr rfl, Or.inr rfl, Or.inr rfl, Or.inl rfl, Or.inl rfl, trivial⟩ w
        · rw [if_neg c] at w
          refine w_iload dX12_ask_145 rfl ?_
          refine w_goto (tgt := 151) dX12_ask_147 rfl ?_
          refine v_istore_n (l' := [.ref l0, .int l1, .int l4, .int l5, .int l4, .int l5, .int l5]) dX12_ask_151 (Nat.le_of_ble_eq_true rfl) rfl ?_
          refine v_iinc (l' := [.ref l0, .int l1, .int l4, .int l5, .int (l4 + 1), .int l5, .int l5]) (v := l4 + 1) dX12_ask_152 rfl rfl (Nat.le_of_ble_eq_true rfl) rfl ?_
          refine w_goto (tgt := 30) dX12_ask_155 rfl ?_
          exact w_drop (l' := [.ref l0, .int l1, .int l4, .int l5, .int (l4 + 1), .null, .null]) ⟨Or.inr rfl, Or.inr rfl, Or.inr rfl, Or.inr rfl, Or.inr rfl, Or.inl rfl, Or.inl rfl, trivial⟩ w
  · rw [if_neg c] at w
    refine w_iload dX12_ask_52 rfl ?_
    refine w_iload_n dX12_ask_54 rfl ?_
    refine w_iload dX12_ask_55 rfl ?_
    refine w_ishr dX12_ask_57 ?_
    refine w_iconst (v := 1) dX12_ask_58 rfl ?_
    refine w_iand dX12_ask_59 ?_
    refine w_iconst (v := 1) dX12_ask_60 rfl ?_
    refine w_ic_ne (tgt := 90) dX12_ask_61 rfl (fun c => ?_) (fun c => ?_)
    · rw [if_neg c] at w
      refine w_iconst (v := 0) dX12_ask_90 rfl ?_
      refine w_iadd dX12_ask_91 ?_
      refine v_istore (l' := [.ref l0, .int l1, .int l2, .int l3, .int l4, .int (l5 + 0), .int l6]) dX12_ask_92 (Nat.le_of_ble_eq_true rfl) rfl ?_
      refine v_iinc (l' := [.ref l0, .int l1, .int l2, .int l3, .int l4, .int (l5 + 0), .int (l6 + 1)]) (v := l6 + 1) dX12_ask_94 rfl rfl (Nat.le_of_ble_eq_true rfl) rfl ?_
      refine w_goto (tgt := 43) dX12_ask_97 rfl ?_
      exact w
    · rw [if_pos c] at w
      refine w_aload_n dX12_ask_64 rfl ?_
      obtain ⟨e1, w⟩ := w
      refine w_getp dX12_ask_65 lk_RX12_110 e1 rfl ?_
      refine w_bipush (v := 10) dX12_ask_68 rfl ?_
      refine w_iload dX12_ask_70 rfl ?_
      refine w_imul dX12_ask_72 ?_
      refine w_iload dX12_ask_73 rfl ?_
      refine w_iconst (v := 4) dX12_ask_75 rfl ?_
      refine w_idiv dX12_ask_76 (by decide) ?_
      refine w_iadd dX12_ask_77 ?_
      obtain ⟨n7, ln7, w⟩ := w
      obtain ⟨e3, w⟩ := w
      refine w_iald dX12_ask_78 ln7 e3 ?_
      refine w_iload dX12_ask_79 rfl ?_
      refine w_iconst (v := 4) dX12_ask_81 rfl ?_
      refine w_irem dX12_ask_82 (by decide) ?_
      refine w_ic_ne (tgt := 90) dX12_ask_83 rfl (fun c => ?_) (fun c => ?_)
      · rw [if_neg c] at w
        refine w_iconst (v := 0) dX12_ask_90 rfl ?_
        refine w_iadd dX12_ask_91 ?_
        refine v_istore (l' := [.ref l0, .int l1, .int l2, .int l3, .int l4, .int (l5 + 0), .int l6]) dX12_ask_92 (Nat.le_of_ble_eq_true rfl) rfl ?_
        refine v_iinc (l' := [.ref l0, .int l1, .int l2, .int l3, .int l4, .int (l5 + 0), .int (l6 + 1)]) (v := l6 + 1) dX12_ask_94 rfl rfl (Nat.le_of_ble_eq_true rfl) rfl ?_
        refine w_goto (tgt := 43) dX12_ask_97 rfl ?_
        exact w
      · rw [if_pos c] at w
        refine w_iconst (v := 1) dX12_ask_86 rfl ?_
        refine w_goto (tgt := 91) dX12_ask_87 rfl ?_
        refine w_iadd dX12_ask_91 ?_
        refine v_istore (l' := [.ref l0, .int l1, .int l2, .int l3, .int l4, .int (l5 + 1), .int l6]) dX12_ask_92 (Nat.le_of_ble_eq_true rfl) rfl ?_
        refine v_iinc (l' := [.ref l0, .int l1, .int l2, .int l3, .int l4, .int (l5 + 1), .int (l6 + 1)]) (v := l6 + 1) dX12_ask_94 rfl rfl (Nat.le_of_ble_eq_true rfl) rfl ?_
        refine w_goto (tgt := 43) dX12_ask_97 rfl ?_
        exact w
set_option maxRecDepth 20000 in
set_option maxHeartbeats 4000000 in
theorem x_X12_draw {G : pm_G} {d : Nat} {post : pm_PT} {h : pm_H} {l0 : Nat} {l1 : Int32} (w :
    (h.1[l0]? = some (0, 11)) ∧
    ∀ h1 : pm_H, h1 = sl h l0 24 ((((gj h l0 24) * (1103515245 : Int64)) + (12345 : Int64)) - (((gj h l0 24) * (1103515245 : Int64)) + (12345 : Int64)) / (2147483648 : Int64) * (2147483648 : Int64)) →
    (¬ ((l1 : Int32).toInt64) = 0) ∧
    post (some (.int ((((gj h1 l0 24) / (65536 : Int64)) - ((gj h1 l0 24) / (65536 : Int64)) / ((l1 : Int32).toInt64) * ((l1 : Int32).toInt64) : Int64).toInt32))) h1) :
    Wp G (m_X12_draw, d + 1, 0, 0, post) (0, 0) 0 [.ref l0, .int l1] [] h := by
  refine w_aload_n dX12_draw_0 rfl ?_
  refine w_aload_n dX12_draw_1 rfl ?_
  obtain ⟨e1, w⟩ := w
  refine w_getl dX12_draw_2 lk_RX12_449 e1 rfl ?_
  refine w_ldc2 (v := (1103515245 : Int64)) dX12_draw_5 g_1947 ?_
  refine w_lmul dX12_draw_8 ?_
  refine w_ldc2 (v := (12345 : Int64)) dX12_draw_9 g_1948 ?_
  refine w_ladd dX12_draw_12 ?_
  refine w_ldc2 (v := (2147483648 : Int64)) dX12_draw_13 g_1949 ?_
  refine w_lrem dX12_draw_16 (by decide) ?_
  refine w_putl dX12_draw_17 lk_RX12_449 e1 rfl (Or.inl rfl) ?_
  have w := w _ rfl
  refine w_aload_n dX12_draw_20 rfl ?_
  refine w_getl dX12_draw_21 lk_RX12_449 e1 rfl ?_
  refine w_ldc2 (v := (65536 : Int64)) dX12_draw_24 g_1950 ?_
  refine w_ldiv dX12_draw_27 (by decide) ?_
  refine w_iload_n dX12_draw_28 rfl ?_
  refine w_i2l dX12_draw_29 ?_
  obtain ⟨e2, w⟩ := w
  refine w_lrem dX12_draw_30 e2 ?_
  refine w_l2i dX12_draw_31 ?_
  exact w_ireturn dX12_draw_32 rfl rfl ⟨Nat.le_refl _, Nat.le_refl _⟩ w
set_option maxRecDepth 20000 in
set_option maxHeartbeats 4000000 in
theorem x_X12_drawsDeed {G : pm_G} {d : Nat} {post : pm_PT} {h : pm_H} {l0 : Nat} (w :
    (h.1[l0]? = some (0, 11)) ∧
    ci G d m_X12_heaps [.ref l0] h fun r1 h2 =>
    (h2.1[l0]? = some (0, 11)) ∧
    ci G d m_X12_draw [.ref l0, .int r1] h2 fun r3 h4 =>
    (h4.1[l0]? = some (0, 11)) ∧
    ci G d m_X12_items [.ref l0] h4 fun r5 h6 =>
    (h6.1[l0]? = some (0, 11)) ∧
    ci G d m_X12_draw [.ref l0, .int r5] h6 fun r7 h8 =>
    (h8.1[l0]? = some (0, 11)) ∧
    ci G d m_X12_draw [.ref l0, .int 4] h8 fun r9 h10 =>
    if 2 ≤ r9 then (
      if r9 = 2 then (
        (h10.1[l0]? = some (0, 11)) ∧
        ci G d m_X12_doesLine [.ref l0, .int 3795, .int 1, .int r3, .int 0] h10 fun r11 h12 =>
        (r11 = 0 ∨ r11 = 1) ∧
        post (some (.int r11)) h12
      ) else (
        (h10.1[l0]? = some (0, 11)) ∧
        ci G d m_X12_heaps [.ref l0] h10 fun r13 h14 =>
        (¬ r13 = 0) ∧
        if ((r3 + 1) - (r3 + 1) / r13 * r13) = r3 then (
          post (some (.int 0)) h14
        ) else (
          (h14.1[l0]? = some (0, 11)) ∧
          ci G d m_X12_doesLine [.ref l0, .int 3795, .int 2, .int r3, .int ((r3 + 1) - (r3 + 1) / r13 * r13)] h14 fun r15 h16 =>
          if r15 = 0 then (
            post (some (.int 0)) h16
          ) else (
            post (some (.int 1)) h16
          )
        )
      )
    ) else (
      (h10.1[l0]? = some (0, 11)) ∧
      ci G d m_X12_doesLine [.ref l0, .int 3795, .int 0, .int r7, .int r3] h10 fun r17 h18 =>
      (r17 = 0 ∨ r17 = 1) ∧
      post (some (.int r17)) h18
    )) :
    Wp G (m_X12_drawsDeed, d + 1, 0, 0, post) (0, 0) 0 [.ref l0, .null, .null, .null, .null] [] h := by
  refine w_aload_n dX12_drawsDeed_0 rfl ?_
  refine w_aload_n dX12_drawsDeed_1 rfl ?_
  obtain ⟨e1, w⟩ := w
  refine w_callV (As := []) (st := [.ref l0]) dX12_drawsDeed_2 mt_X12_heaps g_1679 g_1681 g_98 rfl e1 rfl rfl (Nat.le_of_ble_eq_true rfl) (Nat.le_refl _) ⟨Nat.le_refl _, Nat.le_refl _⟩ w ?_
  rintro v h2 ⟨r1, rfl, w⟩
  obtain ⟨e1, w⟩ := w
  refine w_callV (As := [.int r1]) (st := []) dX12_drawsDeed_5 mt_X12_draw g_1943 g_1945 g_131 rfl e1 rfl rfl (Nat.le_of_ble_eq_true rfl) (Nat.le_refl _) ⟨Nat.le_refl _, Nat.le_refl _⟩ w ?_
  rintro v h4 ⟨r3, rfl, w⟩
  refine v_istore_n (l' := [.ref l0, .int r3, .null, .null, .null]) dX12_drawsDeed_8 (Nat.le_of_ble_eq_true rfl) rfl ?_
  refine w_aload_n dX12_drawsDeed_9 rfl ?_
  refine w_aload_n dX12_drawsDeed_10 rfl ?_
  obtain ⟨e1, w⟩ := w
  refine w_callV (As := []) (st := [.ref l0]) dX12_drawsDeed_11 mt_X12_items g_1363 g_1365 g_52 rfl e1 rfl rfl (Nat.le_of_ble_eq_true rfl) (Nat.le_refl _) ⟨Nat.le_refl _, Nat.le_refl _⟩ w ?_
  rintro v h6 ⟨r5, rfl, w⟩
  obtain ⟨e1, w⟩ := w
  refine w_callV (As := [.int r5]) (st := []) dX12_drawsDeed_14 mt_X12_draw g_1943 g_1945 g_131 rfl e1 rfl rfl (Nat.le_of_ble_eq_true rfl) (Nat.le_refl _) ⟨Nat.le_refl _, Nat.le_refl _⟩ w ?_
  rintro v h8 ⟨r7, rfl, w⟩
  refine v_istore_n (l' := [.ref l0, .int r3, .int r7, .null, .null]) dX12_drawsDeed_17 (Nat.le_of_ble_eq_true rfl) rfl ?_
  refine w_aload_n dX12_drawsDeed_18 rfl ?_
  refine w_iconst (v := 4) dX12_drawsDeed_19 rfl ?_
  obtain ⟨e1, w⟩ := w
  refine w_callV (As := [.int 4]) (st := []) dX12_drawsDeed_20 mt_X12_draw g_1943 g_1945 g_131 rfl e1 rfl rfl (Nat.le_of_ble_eq_true rfl) (Nat.le_refl _) ⟨Nat.le_refl _, Nat.le_refl _⟩ w ?_
  rintro v h10 ⟨r9, rfl, w⟩
  refine v_istore_n (l' := [.ref l0, .int r3, .int r7, .int r9, .null]) dX12_drawsDeed_23 (Nat.le_of_ble_eq_true rfl) rfl ?_
  refine w_iload_n dX12_drawsDeed_24 rfl ?_
  refine w_iconst (v := 2) dX12_drawsDeed_25 rfl ?_
  refine w_ic_ge (tgt := 40) dX12_drawsDeed_26 rfl (fun c => ?_) (fun c => ?_)
  · rw [if_pos c] at w
    refine w_iload_n dX12_drawsDeed_40 rfl ?_
    refine w_iconst (v := 2) dX12_drawsDeed_41 rfl ?_
    refine w_ic_ne (tgt := 56) dX12_drawsDeed_42 rfl (fun c => ?_) (fun c => ?_)
    · rw [if_neg c] at w
      refine w_iload_n dX12_drawsDeed_56 rfl ?_
      refine w_iconst (v := 1) dX12_drawsDeed_57 rfl ?_
      refine w_iadd dX12_drawsDeed_58 ?_
      refine w_aload_n dX12_drawsDeed_59 rfl ?_
      obtain ⟨e1, w⟩ := w
      refine w_callV (As := []) (st := [.int (r3 + 1)]) dX12_drawsDeed_60 mt_X12_heaps g_1679 g_1681 g_98 rfl e1 rfl rfl (Nat.le_of_ble_eq_true rfl) (Nat.le_refl _) ⟨Nat.le_refl _, Nat.le_refl _⟩ w ?_
      rintro v h14 ⟨r13, rfl, w⟩
      obtain ⟨e1, w⟩ := w
      refine w_irem dX12_drawsDeed_63 e1 ?_
      refine v_istore (l' := [.ref l0, .int r3, .int r7, .int r9, .int ((r3 + 1) - (r3 + 1) / r13 * r13)]) dX12_drawsDeed_64 (Nat.le_of_ble_eq_true rfl) rfl ?_
      refine w_iload dX12_drawsDeed_66 rfl ?_
      refine w_iload_n dX12_drawsDeed_68 rfl ?_
      refine w_ic_eq (tgt := 90) dX12_drawsDeed_69 rfl (fun c => ?_) (fun c => ?_)
      · rw [if_pos c] at w
        refine w_iconst (v := 0) dX12_drawsDeed_90 rfl ?_
        exact w_ireturn dX12_drawsDeed_91 rfl rfl ⟨Nat.le_refl _, Nat.le_refl _⟩ w
      · rw [if_neg c] at w
        refine w_aload_n dX12_drawsDeed_72 rfl ?_
        refine w_sipush (v := 3795) dX12_drawsDeed_73 rfl ?_
        refine w_iconst (v := 2) dX12_drawsDeed_76 rfl ?_
        refine w_iload_n dX12_drawsDeed_77 rfl ?_
        refine w_iload dX12_drawsDeed_78 rfl ?_
        obtain ⟨e2, w⟩ := w
        refine w_callV (As := [.int 3795, .int 2, .int r3, .int ((r3 + 1) - (r3 + 1) / r13 * r13)]) (st := []) dX12_drawsDeed_80 mt_X12_doesLine g_1754 g_1756 g_110 rfl e2 rfl rfl (Nat.le_of_ble_eq_true rfl) (Nat.le_refl _) ⟨Nat.le_refl _, Nat.le_refl _⟩ w ?_
        rintro v h16 ⟨r15, rfl, w⟩
        refine w_if_eq (tgt := 90) dX12_drawsDeed_83 rfl (fun c => ?_) (fun c => ?_)
        · rw [if_pos c] at w
          refine w_iconst (v := 0) dX12_drawsDeed_90 rfl ?_
          exact w_ireturn dX12_drawsDeed_91 rfl rfl ⟨Nat.le_refl _, Nat.le_refl _⟩ w
        · rw [if_neg c] at w
          refine w_iconst (v := 1) dX12_drawsDeed_86 rfl ?_
          refine w_goto (tgt := 91) dX12_drawsDeed_87 rfl ?_
          exact w_ireturn dX12_drawsDeed_91 rfl rfl ⟨Nat.le_refl _, Nat.le_refl _⟩ w
    · rw [if_pos c] at w
      refine w_aload_n dX12_drawsDeed_45 rfl ?_
      refine w_sipush (v := 3795) dX12_drawsDeed_46 rfl ?_
      refine w_iconst (v := 1) dX12_drawsDeed_49 rfl ?_
      refine w_iload_n dX12_drawsDeed_50 rfl ?_
      refine w_iconst (v := 0) dX12_drawsDeed_51 rfl ?_
      obtain ⟨e1, w⟩ := w
      refine w_callV (As := [.int 3795, .int 1, .int r3, .int 0]) (st := []) dX12_drawsDeed_52 mt_X12_doesLine g_1754 g_1756 g_110 rfl e1 rfl rfl (Nat.le_of_ble_eq_true rfl) (Nat.le_refl _) ⟨Nat.le_refl _, Nat.le_refl _⟩ w ?_
      rintro v h12 ⟨r11, rfl, w⟩
      obtain ⟨e1, w⟩ := w
      exact w_ireturn dX12_drawsDeed_55 rfl (pm_nz e1) ⟨Nat.le_refl _, Nat.le_refl _⟩ w
  · rw [if_neg c] at w
    refine w_aload_n dX12_drawsDeed_29 rfl ?_
    refine w_sipush (v := 3795) dX12_drawsDeed_30 rfl ?_
    refine w_iconst (v := 0) dX12_drawsDeed_33 rfl ?_
    refine w_iload_n dX12_drawsDeed_34 rfl ?_
    refine w_iload_n dX12_drawsDeed_35 rfl ?_
    obtain ⟨e1, w⟩ := w
    refine w_callV (As := [.int 3795, .int 0, .int r7, .int r3]) (st := []) dX12_drawsDeed_36 mt_X12_doesLine g_1754 g_1756 g_110 rfl e1 rfl rfl (Nat.le_of_ble_eq_true rfl) (Nat.le_refl _) ⟨Nat.le_refl _, Nat.le_refl _⟩ w ?_
    rintro v h18 ⟨r17, rfl, w⟩
    obtain ⟨e1, w⟩ := w
    exact w_ireturn dX12_drawsDeed_39 rfl (pm_nz e1) ⟨Nat.le_refl _, Nat.le_refl _⟩ w
set_option maxRecDepth 20000 in
set_option maxHeartbeats 4000000 in
theorem x_X12_days {G : pm_G} {d : Nat} {post : pm_PT} {h : pm_H} {l0 : Nat} {l1 : Int32} {l2 : Int32} {l3 : Int32} (w :
    (h.1[l0]? = some (0, 11)) ∧
    ∀ h1 : pm_H, h1 = si h l0 0 0 →
    ci G d m_X12_within [.int l1, .int 0, .int 9999] h1 fun r2 h3 =>
    if r2 = 0 then (
      post (some (.int (-1))) h3
    ) else (
      ci G d m_X12_within [.int l2, .int 1, .int 99] h3 fun r4 h5 =>
      if r4 = 0 then (
        post (some (.int (-1))) h5
      ) else (
        ci G d m_X12_within [.int l3, .int 0, .int 2] h5 fun r6 h7 =>
        if r6 = 0 then (
          post (some (.int (-1))) h7
        ) else (
          (h7.1[l0]? = some (0, 11)) ∧
          ∀ h8 : pm_H, h8 = si h7 l0 19 ((gi h7 l0 19) + 1) →
          cv G d m_X12_moves [.ref l0, .int 0, .int 3795, .int 320] h8 fun h10 =>
          (h10.1[l0]? = some (0, 11)) ∧
          ∀ h11 : pm_H, h11 = sl h10 l0 24 ((l1 : Int32).toInt64) →
          Wp G (m_X12_days, d + 1, 0, 0, post) (0, 0) 70 [.ref l0, .null, .int l2, .int l3, .int 0, .int 0] [] h11
        )
      )
    )) :
    Wp G (m_X12_days, d + 1, 0, 0, post) (0, 0) 0 [.ref l0, .int l1, .int l2, .int l3, .null, .null] [] h := by
  refine w_aload_n dX12_days_0 rfl ?_
  refine w_iconst (v := 0) dX12_days_1 rfl ?_
  obtain ⟨e1, w⟩ := w
  refine w_puti dX12_days_2 lk_RX12_1 e1 rfl (Or.inl rfl) ?_
  have w := w _ rfl
  refine w_iload_n dX12_days_5 rfl ?_
  refine w_iconst (v := 0) dX12_days_6 rfl ?_
  refine w_sipush (v := 9999) dX12_days_7 rfl ?_
  refine w_callS (As := [.int l1, .int 0, .int 9999]) (st := []) dX12_days_10 mt_X12_within g_1731 g_1732 rfl rfl (Nat.le_of_ble_eq_true rfl) (Nat.le_refl _) ⟨Nat.le_refl _, Nat.le_refl _⟩ w ?_
  rintro v h3 ⟨r2, rfl, w⟩
  refine w_if_eq (tgt := 35) dX12_days_13 rfl (fun c => ?_) (fun c => ?_)
  · rw [if_pos c] at w
    refine w_iconst (v := (-1)) dX12_days_35 rfl ?_
    exact w_ireturn dX12_days_36 rfl rfl ⟨Nat.le_refl _, Nat.le_refl _⟩ w
  · rw [if_neg c] at w
    refine w_iload_n dX12_days_16 rfl ?_
    refine w_iconst (v := 1) dX12_days_17 rfl ?_
    refine w_bipush (v := 99) dX12_days_18 rfl ?_
    refine w_callS (As := [.int l2, .int 1, .int 99]) (st := []) dX12_days_20 mt_X12_within g_1731 g_1732 rfl rfl (Nat.le_of_ble_eq_true rfl) (Nat.le_refl _) ⟨Nat.le_refl _, Nat.le_refl _⟩ w ?_
    rintro v h5 ⟨r4, rfl, w⟩
    refine w_if_eq (tgt := 35) dX12_days_23 rfl (fun c => ?_) (fun c => ?_)
    · rw [if_pos c] at w
      refine w_iconst (v := (-1)) dX12_days_35 rfl ?_
      exact w_ireturn dX12_days_36 rfl rfl ⟨Nat.le_refl _, Nat.le_refl _⟩ w
    · rw [if_neg c] at w
      refine w_iload_n dX12_days_26 rfl ?_
      refine w_iconst (v := 0) dX12_days_27 rfl ?_
      refine w_iconst (v := 2) dX12_days_28 rfl ?_
      refine w_callS (As := [.int l3, .int 0, .int 2]) (st := []) dX12_days_29 mt_X12_within g_1731 g_1732 rfl rfl (Nat.le_of_ble_eq_true rfl) (Nat.le_refl _) ⟨Nat.le_refl _, Nat.le_refl _⟩ w ?_
      rintro v h7 ⟨r6, rfl, w⟩
      refine w_if_ne (tgt := 37) dX12_days_32 rfl (fun c => ?_) (fun c => ?_)
      · rw [if_neg c] at w
        refine w_aload_n dX12_days_37 rfl ?_
        refine w_dup dX12_days_38 rfl ?_
        obtain ⟨e1, w⟩ := w
        refine w_geti dX12_days_39 lk_RX12_292 e1 rfl ?_
        refine w_iconst (v := 1) dX12_days_42 rfl ?_
        refine w_iadd dX12_days_43 ?_
        refine w_puti dX12_days_44 lk_RX12_292 e1 rfl (Or.inl rfl) ?_
        have w := w _ rfl
        refine w_aload_n dX12_days_47 rfl ?_
        refine w_iconst (v := 0) dX12_days_48 rfl ?_
        refine w_sipush (v := 3795) dX12_days_49 rfl ?_
        refine w_sipush (v := 320) dX12_days_52 rfl ?_
        refine w_callV (As := [.int 0, .int 3795, .int 320]) (st := []) dX12_days_55 mt_X12_moves g_1703 g_1705 g_103 rfl e1 rfl rfl (Nat.le_of_ble_eq_true rfl) (Nat.le_refl _) ⟨Nat.le_refl _, Nat.le_refl _⟩ w ?_
        rintro v h10 ⟨rfl, w⟩
        refine w_aload_n dX12_days_58 rfl ?_
        refine w_iload_n dX12_days_59 rfl ?_
        refine w_i2l dX12_days_60 ?_
        obtain ⟨e1, w⟩ := w
        refine w_putl dX12_days_61 lk_RX12_449 e1 rfl (Or.inl rfl) ?_
        have w := w _ rfl
        refine w_iconst (v := 0) dX12_days_64 rfl ?_
        refine v_istore (l' := [.ref l0, .int l1, .int l2, .int l3, .int 0, .null]) dX12_days_65 (Nat.le_of_ble_eq_true rfl) rfl ?_
        refine w_iconst (v := 0) dX12_days_67 rfl ?_
        refine v_istore (l' := [.ref l0, .int l1, .int l2, .int l3, .int 0, .int 0]) dX12_days_68 (Nat.le_of_ble_eq_true rfl) rfl ?_
        exact w_drop (l' := [.ref l0, .null, .int l2, .int l3, .int 0, .int 0]) ⟨Or.inr rfl, Or.inl rfl, Or.inr rfl, Or.inr rfl, Or.inr rfl, Or.inr rfl, trivial⟩ w
      · rw [if_pos c] at w
        refine w_iconst (v := (-1)) dX12_days_35 rfl ?_
        exact w_ireturn dX12_days_36 rfl rfl ⟨Nat.le_refl _, Nat.le_refl _⟩ w
set_option maxRecDepth 20000 in
set_option maxHeartbeats 4000000 in
theorem x_X12_days_70 {G : pm_G} {d : Nat} {post : pm_PT} {h : pm_H} {l0 : Nat} {l2 : Int32} {l3 : Int32} {l4 : Int32} {l5 : Int32} (w :
    if l2 ≤ l5 then (
      Wp G (m_X12_days, d + 1, 0, 0, post) (0, 0) 113 [.ref l0, .null, .null, .int l3, .int l4, .null] [] h
    ) else (
      (h.1[l0]? = some (0, 11)) ∧
      ci G d m_X12_heaps [.ref l0] h fun r1 h2 =>
      if r1 ≤ 0 then (
        Wp G (m_X12_days, d + 1, 0, 0, post) (0, 0) 113 [.ref l0, .null, .null, .int l3, .int l4, .null] [] h2
      ) else (
        (h2.1[l0]? = some (0, 11)) ∧
        ci G d m_X12_items [.ref l0] h2 fun r3 h4 =>
        if r3 ≤ 0 then (
          Wp G (m_X12_days, d + 1, 0, 0, post) (0, 0) 113 [.ref l0, .null, .null, .int l3, .int l4, .null] [] h4
        ) else (
          (h4.1[l0]? = some (0, 11)) ∧
          ci G d m_X12_drawsDeed [.ref l0] h4 fun r5 h6 =>
          if r5 = 0 then (
            Wp G (m_X12_days, d + 1, 0, 0, post) (0, 0) 70 [.ref l0, .null, .int l2, .int l3, .int (l4 + 0), .int (l5 + 1)] [] h6
          ) else (
            Wp G (m_X12_days, d + 1, 0, 0, post) (0, 0) 70 [.ref l0, .null, .int l2, .int l3, .int (l4 + 1), .int (l5 + 1)] [] h6
          )
        )
      )
    )) :
    Wp G (m_X12_days, d + 1, 0, 0, post) (0, 0) 70 [.ref l0, .null, .int l2, .int l3, .int l4, .int l5] [] h := by
  refine w_iload dX12_days_70 rfl ?_
  refine w_iload_n dX12_days_72 rfl ?_
  refine w_ic_ge (tgt := 113) dX12_days_73 rfl (fun c => ?_) (fun c => ?_)
  · rw [if_pos c] at w
    exact w_drop (l' := [.ref l0, .null, .null, .int l3, .int l4, .null]) ⟨Or.inr rfl, Or.inl rfl, Or.inl rfl, Or.inr rfl, Or.inr rfl, Or.inl rfl, trivial⟩ w
  · rw [if_neg c] at w
    refine w_aload_n dX12_days_76 rfl ?_
    obtain ⟨e1, w⟩ := w
    refine w_callV (As := []) (st := []) dX12_days_77 mt_X12_heaps g_1679 g_1681 g_98 rfl e1 rfl rfl (Nat.le_of_ble_eq_true rfl) (Nat.le_refl _) ⟨Nat.le_refl _, Nat.le_refl _⟩ w ?_
    rintro v h2 ⟨r1, rfl, w⟩
    refine w_if_le (tgt := 113) dX12_days_80 rfl (fun c => ?_) (fun c => ?_)
    · rw [if_pos c] at w
      exact w_drop (l' := [.ref l0, .null, .null, .int l3, .int l4, .null]) ⟨Or.inr rfl, Or.inl rfl, Or.inl rfl, Or.inr rfl, Or.inr rfl, Or.inl rfl, trivial⟩ w
    · rw [if_neg c] at w
      refine w_aload_n dX12_days_83 rfl ?_
      obtain ⟨e1, w⟩ := w
      refine w_callV (As := []) (st := []) dX12_days_84 mt_X12_items g_1363 g_1365 g_52 rfl e1 rfl rfl (Nat.le_of_ble_eq_true rfl) (Nat.le_refl _) ⟨Nat.le_refl _, Nat.le_refl _⟩ w ?_
      rintro v h4 ⟨r3, rfl, w⟩
      refine w_if_le (tgt := 113) dX12_days_87 rfl (fun c => ?_) (fun c => ?_)
      · rw [if_pos c] at w
        exact w_drop (l' := [.ref l0, .null, .null, .int l3, .int l4, .null]) ⟨Or.inr rfl, Or.inl rfl, Or.inl rfl, Or.inr rfl, Or.inr rfl, Or.inl rfl, trivial⟩ w
      · rw [if_neg c] at w
        refine w_iload dX12_days_90 rfl ?_
        refine w_aload_n dX12_days_92 rfl ?_
        obtain ⟨e1, w⟩ := w
        refine w_callV (As := []) (st := [.int l4]) dX12_days_93 mt_X12_drawsDeed g_1939 g_1941 g_130 rfl e1 rfl rfl (Nat.le_of_ble_eq_true rfl) (Nat.le_refl _) ⟨Nat.le_refl _, Nat.le_refl _⟩ w ?_
        rintro v h6 ⟨r5, rfl, w⟩
        refine w_if_eq (tgt := 103) dX12_days_96 rfl (fun c => ?_) (fun c => ?_)
        · rw [if_pos c] at w
          refine w_iconst (v := 0) dX12_days_103 rfl ?_
          refine w_iadd dX12_days_104 ?_
          refine v_istore (l' := [.ref l0, .null, .int l2, .int l3, .int (l4 + 0), .int l5]) dX12_days_105 (Nat.le_of_ble_eq_true rfl) rfl ?_
          refine v_iinc (l' := [.ref l0, .null, .int l2, .int l3, .int (l4 + 0), .int (l5 + 1)]) (v := l5 + 1) dX12_days_107 rfl rfl (Nat.le_of_ble_eq_true rfl) rfl ?_
          refine w_goto (tgt := 70) dX12_days_110 rfl ?_
          exact w
        · rw [if_neg c] at w
          refine w_iconst (v := 1) dX12_days_99 rfl ?_
          refine w_goto (tgt := 104) dX12_days_100 rfl ?_
          refine w_iadd dX12_days_104 ?_
          refine v_istore (l' := [.ref l0, .null, .int l2, .int l3, .int (l4 + 1), .int l5]) dX12_days_105 (Nat.le_of_ble_eq_true rfl) rfl ?_
          refine v_iinc (l' := [.ref l0, .null, .int l2, .int l3, .int (l4 + 1), .int (l5 + 1)]) (v := l5 + 1) dX12_days_107 rfl rfl (Nat.le_of_ble_eq_true rfl) rfl ?_
          refine w_goto (tgt := 70) dX12_days_110 rfl ?_
          exact w
set_option maxRecDepth 20000 in
set_option maxHeartbeats 4000000 in
theorem x_X12_days_113 {G : pm_G} {d : Nat} {post : pm_PT} {h : pm_H} {l0 : Nat} {l3 : Int32} {l4 : Int32} (w :
    if l3 = 0 then (
      post (some (.int l4)) h
    ) else (
      if l3 = 1 then (
        (h.1[l0]? = some (0, 11)) ∧
        ci G d m_X12_raisedIn [.ref l0, .int 3795, .int (-1)] h fun r1 h2 =>
        post (some (.int r1)) h2
      ) else (
        (h.1[l0]? = some (0, 11)) ∧
        ci G d m_X12_onFloor [.ref l0, .int 3795] h fun r3 h4 =>
        post (some (.int r3)) h4
      )
    )) :
    Wp G (m_X12_days, d + 1, 0, 0, post) (0, 0) 113 [.ref l0, .null, .null, .int l3, .int l4, .null] [] h := by
  refine w_iload_n dX12_days_113 rfl ?_
  refine w_if_ne (tgt := 122) dX12_days_114 rfl (fun c => ?_) (fun c => ?_)
  · rw [if_neg c] at w
    refine w_iload_n dX12_days_122 rfl ?_
    refine w_iconst (v := 1) dX12_days_123 rfl ?_
    refine w_ic_ne (tgt := 138) dX12_days_124 rfl (fun c => ?_) (fun c => ?_)
    · rw [if_neg c] at w
      refine w_aload_n dX12_days_138 rfl ?_
      refine w_sipush (v := 3795) dX12_days_139 rfl ?_
      obtain ⟨e1, w⟩ := w
      refine w_callV (As := [.int 3795]) (st := []) dX12_days_142 mt_X12_onFloor g_1758 g_1760 g_111 rfl e1 rfl rfl (Nat.le_of_ble_eq_true rfl) (Nat.le_refl _) ⟨Nat.le_refl _, Nat.le_refl _⟩ w ?_
      rintro v h4 ⟨r3, rfl, w⟩
      exact w_ireturn dX12_days_145 rfl rfl ⟨Nat.le_refl _, Nat.le_refl _⟩ w
    · rw [if_pos c] at w
      refine w_aload_n dX12_days_127 rfl ?_
      refine w_sipush (v := 3795) dX12_days_128 rfl ?_
      refine w_iconst (v := (-1)) dX12_days_131 rfl ?_
      obtain ⟨e1, w⟩ := w
      refine w_callV (As := [.int 3795, .int (-1)]) (st := []) dX12_days_132 mt_X12_raisedIn g_1762 g_1764 g_112 rfl e1 rfl rfl (Nat.le_of_ble_eq_true rfl) (Nat.le_refl _) ⟨Nat.le_refl _, Nat.le_refl _⟩ w ?_
      rintro v h2 ⟨r1, rfl, w⟩
      refine w_goto (tgt := 145) dX12_days_135 rfl ?_
      exact w_ireturn dX12_days_145 rfl rfl ⟨Nat.le_refl _, Nat.le_refl _⟩ w
  · rw [if_pos c] at w
    refine w_iload dX12_days_117 rfl ?_
    refine w_goto (tgt := 145) dX12_days_119 rfl ?_
    exact w_ireturn dX12_days_145 rfl rfl ⟨Nat.le_refl _, Nat.le_refl _⟩ w
set_option maxRecDepth 20000 in
set_option maxHeartbeats 4000000 in
theorem x_X12_mark {G : pm_G} {d : Nat} {post : pm_PT} {h : pm_H} {l0 : Nat} {l1 : Int32} {l2 : Int32} (w :
    (h.1[l0]? = some (0, 11)) ∧
    ∀ h1 : pm_H, h1 = si h l0 0 0 →
    ci G d m_X12_within [.int l1, .int 0, .int 1] h1 fun r2 h3 =>
    if r2 = 0 then (
      post (some (.int 0)) h3
    ) else (
      if l2 = 0 then (
        Wp G (m_X12_mark, d + 1, 0, 0, post) (0, 0) 29 [.ref l0, .int l1, .int l2] [] h3
      ) else (
        (h3.1[l0]? = some (0, 11)) ∧
        ∃ n4 : Nat, h3.1[gp h3 l0 20]? = some (5, n4) ∧
        (vp_in l1 n4) ∧
        if (gi h3 (gp h3 l0 20) (l1 : Int32).toNatClampNeg) = 0 then (
          post (some (.int 0)) h3
        ) else (
          Wp G (m_X12_mark, d + 1, 0, 0, post) (0, 0) 29 [.ref l0, .int l1, .int l2] [] h3
        )
      )
    )) :
    Wp G (m_X12_mark, d + 1, 0, 0, post) (0, 0) 0 [.ref l0, .int l1, .int l2] [] h := by
  refine w_aload_n dX12_mark_0 rfl ?_
  refine w_iconst (v := 0) dX12_mark_1 rfl ?_
  obtain ⟨e1, w⟩ := w
  refine w_puti dX12_mark_2 lk_RX12_1 e1 rfl (Or.inl rfl) ?_
  have w := w _ rfl
  refine w_iload_n dX12_mark_5 rfl ?_
  refine w_iconst (v := 0) dX12_mark_6 rfl ?_
  refine w_iconst (v := 1) dX12_mark_7 rfl ?_
  refine w_callS (As := [.int l1, .int 0, .int 1]) (st := []) dX12_mark_8 mt_X12_within g_1731 g_1732 rfl rfl (Nat.le_of_ble_eq_true rfl) (Nat.le_refl _) ⟨Nat.le_refl _, Nat.le_refl _⟩ w ?_
  rintro v h3 ⟨r2, rfl, w⟩
  refine w_if_eq (tgt := 27) dX12_mark_11 rfl (fun c => ?_) (fun c => ?_)
  · rw [if_pos c] at w
    refine w_iconst (v := 0) dX12_mark_27 rfl ?_
    exact w_ireturn dX12_mark_28 rfl rfl ⟨Nat.le_refl _, Nat.le_refl _⟩ w
  · rw [if_neg c] at w
    refine w_iload_n dX12_mark_14 rfl ?_
    refine w_if_eq (tgt := 29) dX12_mark_15 rfl (fun c => ?_) (fun c => ?_)
    · rw [if_pos c] at w
      exact w
    · rw [if_neg c] at w
      refine w_aload_n dX12_mark_18 rfl ?_
      obtain ⟨e1, w⟩ := w
      refine w_getp dX12_mark_19 lk_RX12_100 e1 rfl ?_
      refine w_iload_n dX12_mark_22 rfl ?_
      obtain ⟨n4, ln4, w⟩ := w
      obtain ⟨e3, w⟩ := w
      refine w_zald dX12_mark_23 ln4 e3 ?_
      refine w_if_ne (tgt := 29) dX12_mark_24 rfl (fun c => ?_) (fun c => ?_)
      · rw [if_neg c] at w
        exact w
      · rw [if_pos c] at w
        refine w_iconst (v := 0) dX12_mark_27 rfl ?_
        exact w_ireturn dX12_mark_28 rfl rfl ⟨Nat.le_refl _, Nat.le_refl _⟩ w
set_option maxRecDepth 20000 in
set_option maxHeartbeats 4000000 in
theorem x_X12_mark_29 {G : pm_G} {d : Nat} {post : pm_PT} {h : pm_H} {l0 : Nat} {l1 : Int32} {l2 : Int32} (w :
    (h.1[l0]? = some (0, 11)) ∧
    ∃ n1 : Nat, h.1[gp h l0 20]? = some (5, n1) ∧
    (vp_in l1 n1) ∧
    ∀ h2 : pm_H, h2 = si h (gp h l0 20) (l1 : Int32).toNatClampNeg (vp_nar .boolean 1) →
    if l2 = 0 then (
      if l2 = 0 then (
        cv G d m_X12_moves [.ref l0, .int 0, .int (345 * (1 + l1)), .int 345] h2 fun h4 =>
        if l2 = 0 then (
          (h4.1[l0]? = some (0, 11)) ∧
          ∀ h5 : pm_H, h5 = si h4 l0 18 (gi h4 l0 18) →
          post (some (.int 1)) h5
        ) else (
          (h4.1[l0]? = some (0, 11)) ∧
          ∀ h6 : pm_H, h6 = si h4 l0 18 0 →
          post (some (.int 1)) h6
        )
      ) else (
        cv G d m_X12_moves [.ref l0, .int 0, .int 0, .int 345] h2 fun h8 =>
        if l2 = 0 then (
          (h8.1[l0]? = some (0, 11)) ∧
          ∀ h9 : pm_H, h9 = si h8 l0 18 (gi h8 l0 18) →
          post (some (.int 1)) h9
        ) else (
          (h8.1[l0]? = some (0, 11)) ∧
          ∀ h10 : pm_H, h10 = si h8 l0 18 0 →
          post (some (.int 1)) h10
        )
      )
    ) else (
      if l2 = 0 then (
        cv G d m_X12_moves [.ref l0, .int (345 * (1 + l1)), .int (345 * (1 + l1)), .int 345] h2 fun h12 =>
        if l2 = 0 then (
          (h12.1[l0]? = some (0, 11)) ∧
          ∀ h13 : pm_H, h13 = si h12 l0 18 (gi h12 l0 18) →
          post (some (.int 1)) h13
        ) else (
          (h12.1[l0]? = some (0, 11)) ∧
          ∀ h14 : pm_H, h14 = si h12 l0 18 0 →
          post (some (.int 1)) h14
        )
      ) else (
        cv G d m_X12_moves [.ref l0, .int (345 * (1 + l1)), .int 0, .int 345] h2 fun h16 =>
        if l2 = 0 then (
          (h16.1[l0]? = some (0, 11)) ∧
          ∀ h17 : pm_H, h17 = si h16 l0 18 (gi h16 l0 18) →
          post (some (.int 1)) h17
        ) else (
          (h16.1[l0]? = some (0, 11)) ∧
          ∀ h18 : pm_H, h18 = si h16 l0 18 0 →
          post (some (.int 1)) h18
        )
      )
    )) :
    Wp G (m_X12_mark, d + 1, 0, 0, post) (0, 0) 29 [.ref l0, .int l1, .int l2] [] h := by
  refine w_aload_n dX12_mark_29 rfl ?_
  obtain ⟨e1, w⟩ := w
  refine w_getp dX12_mark_30 lk_RX12_100 e1 rfl ?_
  refine w_iload_n dX12_mark_33 rfl ?_
  refine w_iconst (v := 1) dX12_mark_34 rfl ?_
  obtain ⟨n1, ln1, w⟩ := w
  obtain ⟨e3, w⟩ := w
  refine w_zast dX12_mark_35 ln1 e3 ?_
  have w := w _ rfl
  refine w_aload_n dX12_mark_36 rfl ?_
  refine w_iload_n dX12_mark_37 rfl ?_
  refine w_if_eq (tgt := 51) dX12_mark_38 rfl (fun c => ?_) (fun c => ?_)
  · rw [if_pos c] at w
    refine w_iconst (v := 0) dX12_mark_51 rfl ?_
    refine w_iload_n dX12_mark_52 rfl ?_
    refine w_if_eq (tgt := 60) dX12_mark_53 rfl (fun c => ?_) (fun c => ?_)
    · rw [if_pos c] at w
      refine w_sipush (v := 345) dX12_mark_60 rfl ?_
      refine w_iconst (v := 1) dX12_mark_63 rfl ?_
      refine w_iload_n dX12_mark_64 rfl ?_
      refine w_iadd dX12_mark_65 ?_
      refine w_imul dX12_mark_66 ?_
      refine w_sipush (v := 345) dX12_mark_67 rfl ?_
      refine w_callV (As := [.int 0, .int (345 * (1 + l1)), .int 345]) (st := []) dX12_mark_70 mt_X12_moves g_1703 g_1705 g_103 rfl e1 rfl rfl (Nat.le_of_ble_eq_true rfl) (Nat.le_refl _) ⟨Nat.le_refl _, Nat.le_refl _⟩ w ?_
      rintro v h4 ⟨rfl, w⟩
      refine w_aload_n dX12_mark_73 rfl ?_
      refine w_iload_n dX12_mark_74 rfl ?_
      refine w_if_eq (tgt := 82) dX12_mark_75 rfl (fun c => ?_) (fun c => ?_)
      · rw [if_pos c] at w
        refine w_aload_n dX12_mark_82 rfl ?_
        obtain ⟨e1, w⟩ := w
        refine w_geti dX12_mark_83 lk_RX12_289 e1 rfl ?_
        refine w_puti dX12_mark_86 lk_RX12_289 e1 rfl (Or.inl rfl) ?_
        have w := w _ rfl
        refine w_iconst (v := 1) dX12_mark_89 rfl ?_
        exact w_ireturn dX12_mark_90 rfl rfl ⟨Nat.le_refl _, Nat.le_refl _⟩ w
      · rw [if_neg c] at w
        refine w_iconst (v := 0) dX12_mark_78 rfl ?_
        refine w_goto (tgt := 86) dX12_mark_79 rfl ?_
        obtain ⟨e1, w⟩ := w
        refine w_puti dX12_mark_86 lk_RX12_289 e1 rfl (Or.inl rfl) ?_
        have w := w _ rfl
        refine w_iconst (v := 1) dX12_mark_89 rfl ?_
        exact w_ireturn dX12_mark_90 rfl rfl ⟨Nat.le_refl _, Nat.le_refl _⟩ w
    · rw [if_neg c] at w
      refine w_iconst (v := 0) dX12_mark_56 rfl ?_
      refine w_goto (tgt := 67) dX12_mark_57 rfl ?_
      refine w_sipush (v := 345) dX12_mark_67 rfl ?_
      refine w_callV (As := [.int 0, .int 0, .int 345]) (st := []) dX12_mark_70 mt_X12_moves g_1703 g_1705 g_103 rfl e1 rfl rfl (Nat.le_of_ble_eq_true rfl) (Nat.le_refl _) ⟨Nat.le_refl _, Nat.le_refl _⟩ w ?_
      rintro v h8 ⟨rfl, w⟩
      refine w_aload_n dX12_mark_73 rfl ?_
      refine w_iload_n dX12_mark_74 rfl ?_
      refine w_if_eq (tgt := 82) dX12_mark_75 rfl (fun c => ?_) (fun c => ?_)
      · rw [if_pos c] at w
        refine w_aload_n dX12_mark_82 rfl ?_
        obtain ⟨e1, w⟩ := w
        refine w_geti dX12_mark_83 lk_RX12_289 e1 rfl ?_
        refine w_puti dX12_mark_86 lk_RX12_289 e1 rfl (Or.inl rfl) ?_
        have w := w _ rfl
        refine w_iconst (v := 1) dX12_mark_89 rfl ?_
        exact w_ireturn dX12_mark_90 rfl rfl ⟨Nat.le_refl _, Nat.le_refl _⟩ w
      · rw [if_neg c] at w
        refine w_iconst (v := 0) dX12_mark_78 rfl ?_
        refine w_goto (tgt := 86) dX12_mark_79 rfl ?_
        obtain ⟨e1, w⟩ := w
        refine w_puti dX12_mark_86 lk_RX12_289 e1 rfl (Or.inl rfl) ?_
        have w := w _ rfl
        refine w_iconst (v := 1) dX12_mark_89 rfl ?_
        exact w_ireturn dX12_mark_90 rfl rfl ⟨Nat.le_refl _, Nat.le_refl _⟩ w
  · rw [if_neg c] at w
    refine w_sipush (v := 345) dX12_mark_41 rfl ?_
    refine w_iconst (v := 1) dX12_mark_44 rfl ?_
    refine w_iload_n dX12_mark_45 rfl ?_
    refine w_iadd dX12_mark_46 ?_
    refine w_imul dX12_mark_47 ?_
    refine w_goto (tgt := 52) dX12_mark_48 rfl ?_
    refine w_iload_n dX12_mark_52 rfl ?_
    refine w_if_eq (tgt := 60) dX12_mark_53 rfl (fun c => ?_) (fun c => ?_)
    · rw [if_pos c] at w
      refine w_sipush (v := 345) dX12_mark_60 rfl ?_
      refine w_iconst (v := 1) dX12_mark_63 rfl ?_
      refine w_iload_n dX12_mark_64 rfl ?_
      refine w_iadd dX12_mark_65 ?_
      refine w_imul dX12_mark_66 ?_
      refine w_sipush (v := 345) dX12_mark_67 rfl ?_
      refine w_callV (As := [.int (345 * (1 + l1)), .int (345 * (1 + l1)), .int 345]) (st := []) dX12_mark_70 mt_X12_moves g_1703 g_1705 g_103 rfl e1 rfl rfl (Nat.le_of_ble_eq_true rfl) (Nat.le_refl _) ⟨Nat.le_refl _, Nat.le_refl _⟩ w ?_
      rintro v h12 ⟨rfl, w⟩
      refine w_aload_n dX12_mark_73 rfl ?_
      refine w_iload_n dX12_mark_74 rfl ?_
      refine w_if_eq (tgt := 82) dX12_mark_75 rfl (fun c => ?_) (fun c => ?_)
      · rw [if_pos c] at w
        refine w_aload_n dX12_mark_82 rfl ?_
        obtain ⟨e1, w⟩ := w
        refine w_geti dX12_mark_83 lk_RX12_289 e1 rfl ?_
        refine w_puti dX12_mark_86 lk_RX12_289 e1 rfl (Or.inl rfl) ?_
        have w := w _ rfl
        refine w_iconst (v := 1) dX12_mark_89 rfl ?_
        exact w_ireturn dX12_mark_90 rfl rfl ⟨Nat.le_refl _, Nat.le_refl _⟩ w
      · rw [if_neg c] at w
        refine w_iconst (v := 0) dX12_mark_78 rfl ?_
        refine w_goto (tgt := 86) dX12_mark_79 rfl ?_
        obtain ⟨e1, w⟩ := w
        refine w_puti dX12_mark_86 lk_RX12_289 e1 rfl (Or.inl rfl) ?_
        have w := w _ rfl
        refine w_iconst (v := 1) dX12_mark_89 rfl ?_
        exact w_ireturn dX12_mark_90 rfl rfl ⟨Nat.le_refl _, Nat.le_refl _⟩ w
    · rw [if_neg c] at w
      refine w_iconst (v := 0) dX12_mark_56 rfl ?_
      refine w_goto (tgt := 67) dX12_mark_57 rfl ?_
      refine w_sipush (v := 345) dX12_mark_67 rfl ?_
      refine w_callV (As := [.int (345 * (1 + l1)), .int 0, .int 345]) (st := []) dX12_mark_70 mt_X12_moves g_1703 g_1705 g_103 rfl e1 rfl rfl (Nat.le_of_ble_eq_true rfl) (Nat.le_refl _) ⟨Nat.le_refl _, Nat.le_refl _⟩ w ?_
      rintro v h16 ⟨rfl, w⟩
      refine w_aload_n dX12_mark_73 rfl ?_
      refine w_iload_n dX12_mark_74 rfl ?_
      refine w_if_eq (tgt := 82) dX12_mark_75 rfl (fun c => ?_) (fun c => ?_)
      · rw [if_pos c] at w
        refine w_aload_n dX12_mark_82 rfl ?_
        obtain ⟨e1, w⟩ := w
        refine w_geti dX12_mark_83 lk_RX12_289 e1 rfl ?_
        refine w_puti dX12_mark_86 lk_RX12_289 e1 rfl (Or.inl rfl) ?_
        have w := w _ rfl
        refine w_iconst (v := 1) dX12_mark_89 rfl ?_
        exact w_ireturn dX12_mark_90 rfl rfl ⟨Nat.le_refl _, Nat.le_refl _⟩ w
      · rw [if_neg c] at w
        refine w_iconst (v := 0) dX12_mark_78 rfl ?_
        refine w_goto (tgt := 86) dX12_mark_79 rfl ?_
        obtain ⟨e1, w⟩ := w
        refine w_puti dX12_mark_86 lk_RX12_289 e1 rfl (Or.inl rfl) ?_
        have w := w _ rfl
        refine w_iconst (v := 1) dX12_mark_89 rfl ?_
        exact w_ireturn dX12_mark_90 rfl rfl ⟨Nat.le_refl _, Nat.le_refl _⟩ w
set_option maxRecDepth 20000 in
set_option maxHeartbeats 4000000 in
theorem x_X12_count {G : pm_G} {d : Nat} {post : pm_PT} {h : pm_H} {l0 : Nat} {l1 : Int32} (w :
    (h.1[l0]? = some (0, 11)) ∧
    ∀ h1 : pm_H, h1 = si h l0 0 0 →
    if l1 = 0 then (
      ci G d m_X12_heaps [.ref l0] h1 fun r2 h3 =>
      post (some (.int r2)) h3
    ) else (
    if l1 = 1 then (
      ∃ n4 : Nat, h.1[gp h1 l0 10]? = some (1, n4) ∧
      (vp_in 1 n4) ∧
      post (some (.int (gi h1 (gp h1 l0 10) (1 : Int32).toNatClampNeg))) h1
    ) else (
    if l1 = 2 then (
      ci G d m_X12_items [.ref l0] h1 fun r5 h6 =>
      post (some (.int r5)) h6
    ) else (
    if l1 = 3 then (
      ∃ n7 : Nat, h.1[gp h1 l0 10]? = some (1, n7) ∧
      (vp_in 3 n7) ∧
      post (some (.int (gi h1 (gp h1 l0 10) (3 : Int32).toNatClampNeg))) h1
    ) else (
    if l1 = 4 then (
      ci G d m_X12_onFloor [.ref l0, .int 0] h1 fun r8 h9 =>
      post (some (.int r8)) h9
    ) else (
    if l1 = 5 then (
      ci G d m_X12_raisedIn [.ref l0, .int 0, .int (-1)] h1 fun r10 h11 =>
      post (some (.int r10)) h11
    ) else (
    if l1 = 6 then (
      post (some (.int (gi h1 l0 19))) h1
    ) else (
    if l1 = 7 then (
      ∃ n12 : Nat, h.1[gp h1 l0 14]? = some (1, n12) ∧
      (vp_in 0 n12) ∧
      post (some (.int (gi h1 (gp h1 l0 14) (0 : Int32).toNatClampNeg))) h1
    ) else (
    if l1 = 8 then (
      ∃ n13 : Nat, h.1[gp h1 l0 17]? = some (1, n13) ∧
      (vp_in 320 n13) ∧
      post (some (.int (gi h1 (gp h1 l0 17) (320 : Int32).toNatClampNeg))) h1
    ) else (
    if l1 = 9 then (
      post (some (.int (gi h1 l0 18))) h1
    ) else (
    if l1 = 10 then (
      post (some (.int (gi h1 l0 2))) h1
    ) else (
    post (some (.int (-1))) h1
    )))))))))))) :
    Wp G (m_X12_count, d + 1, 0, 0, post) (0, 0) 0 [.ref l0, .int l1] [] h := by
  refine w_aload_n dX12_count_0 rfl ?_
  refine w_iconst (v := 0) dX12_count_1 rfl ?_
  obtain ⟨e1, w⟩ := w
  refine w_puti dX12_count_2 lk_RX12_1 e1 rfl (Or.inl rfl) ?_
  have w := w _ rfl
  refine w_iload_n dX12_count_5 rfl ?_
  have sw : (l1 : Int32).toInt < 0 ∨ 10 < (l1 : Int32).toInt ∨ (l1 : Int32).toInt = 0 ∨ (l1 : Int32).toInt = 1 ∨ (l1 : Int32).toInt = 2 ∨ (l1 : Int32).toInt = 3 ∨ (l1 : Int32).toInt = 4 ∨ (l1 : Int32).toInt = 5 ∨ (l1 : Int32).toInt = 6 ∨ (l1 : Int32).toInt = 7 ∨ (l1 : Int32).toInt = 8 ∨ (l1 : Int32).toInt = 9 ∨ (l1 : Int32).toInt = 10 := by omega
  rcases sw with sw | sw | sw | sw | sw | sw | sw | sw | sw | sw | sw | sw | sw
  · refine w_tsw (tgt := 132) dX12_count_6 (by rw [if_pos (by first | exact Or.inl sw | exact Or.inr sw)]; rfl) (by first | exact Or.inl sw | exact Or.inr (Or.inl sw)) ?_
    rw [if_neg (fun q => by rw [q] at sw; revert sw; decide)] at w
    rw [if_neg (fun q => by rw [q] at sw; revert sw; decide)] at w
    rw [if_neg (fun q => by rw [q] at sw; revert sw; decide)] at w
    rw [if_neg (fun q => by rw [q] at sw; revert sw; decide)] at w
    rw [if_neg (fun q => by rw [q] at sw; revert sw; decide)] at w
    rw [if_neg (fun q => by rw [q] at sw; revert sw; decide)] at w
    rw [if_neg (fun q => by rw [q] at sw; revert sw; decide)] at w
    rw [if_neg (fun q => by rw [q] at sw; revert sw; decide)] at w
    rw [if_neg (fun q => by rw [q] at sw; revert sw; decide)] at w
    rw [if_neg (fun q => by rw [q] at sw; revert sw; decide)] at w
    rw [if_neg (fun q => by rw [q] at sw; revert sw; decide)] at w
    refine w_iconst (v := (-1)) dX12_count_132 rfl ?_
    exact w_ireturn dX12_count_133 rfl rfl ⟨Nat.le_refl _, Nat.le_refl _⟩ w
  · refine w_tsw (tgt := 132) dX12_count_6 (by rw [if_pos (by first | exact Or.inl sw | exact Or.inr sw)]; rfl) (by first | exact Or.inl sw | exact Or.inr (Or.inl sw)) ?_
    rw [if_neg (fun q => by rw [q] at sw; revert sw; decide)] at w
    rw [if_neg (fun q => by rw [q] at sw; revert sw; decide)] at w
    rw [if_neg (fun q => by rw [q] at sw; revert sw; decide)] at w
    rw [if_neg (fun q => by rw [q] at sw; revert sw; decide)] at w
    rw [if_neg (fun q => by rw [q] at sw; revert sw; decide)] at w
    rw [if_neg (fun q => by rw [q] at sw; revert sw; decide)] at w
    rw [if_neg (fun q => by rw [q] at sw; revert sw; decide)] at w
    rw [if_neg (fun q => by rw [q] at sw; revert sw; decide)] at w
    rw [if_neg (fun q => by rw [q] at sw; revert sw; decide)] at w
    rw [if_neg (fun q => by rw [q] at sw; revert sw; decide)] at w
    rw [if_neg (fun q => by rw [q] at sw; revert sw; decide)] at w
    refine w_iconst (v := (-1)) dX12_count_132 rfl ?_
    exact w_ireturn dX12_count_133 rfl rfl ⟨Nat.le_refl _, Nat.le_refl _⟩ w
  · have sv : (l1 : Int32) = 0 := Int32.toInt_inj.mp (sw.trans (by decide))
    refine w_tsw (tgt := 64) dX12_count_6 (by rw [sw]; rfl) (by rw [sw]; decide) ?_
    rw [if_pos sv] at w
    refine w_aload_n dX12_count_64 rfl ?_
    refine w_callV (As := []) (st := []) dX12_count_65 mt_X12_heaps g_1679 g_1681 g_98 rfl e1 rfl rfl (Nat.le_of_ble_eq_true rfl) (Nat.le_refl _) ⟨Nat.le_refl _, Nat.le_refl _⟩ w ?_
    rintro v h3 ⟨r2, rfl, w⟩
    exact w_ireturn dX12_count_68 rfl rfl ⟨Nat.le_refl _, Nat.le_refl _⟩ w
  · have sv : (l1 : Int32) = 1 := Int32.toInt_inj.mp (sw.trans (by decide))
    refine w_tsw (tgt := 69) dX12_count_6 (by rw [sw]; rfl) (by rw [sw]; decide) ?_
    rw [if_neg (fun q => by rw [q] at sw; revert sw; decide)] at w
    rw [if_pos sv] at w
    refine w_aload_n dX12_count_69 rfl ?_
    refine w_getp dX12_count_70 lk_RX12_79 e1 rfl ?_
    refine w_iconst (v := 1) dX12_count_73 rfl ?_
    obtain ⟨n4, ln4, w⟩ := w
    obtain ⟨e3, w⟩ := w
    refine w_iald dX12_count_74 ln4 e3 ?_
    exact w_ireturn dX12_count_75 rfl rfl ⟨Nat.le_refl _, Nat.le_refl _⟩ w
  · have sv : (l1 : Int32) = 2 := Int32.toInt_inj.mp (sw.trans (by decide))
    refine w_tsw (tgt := 76) dX12_count_6 (by rw [sw]; rfl) (by rw [sw]; decide) ?_
    rw [if_neg (fun q => by rw [q] at sw; revert sw; decide)] at w
    rw [if_neg (fun q => by rw [q] at sw; revert sw; decide)] at w
    rw [if_pos sv] at w
    refine w_aload_n dX12_count_76 rfl ?_
    refine w_callV (As := []) (st := []) dX12_count_77 mt_X12_items g_1363 g_1365 g_52 rfl e1 rfl rfl (Nat.le_of_ble_eq_true rfl) (Nat.le_refl _) ⟨Nat.le_refl _, Nat.le_refl _⟩ w ?_
    rintro v h6 ⟨r5, rfl, w⟩
    exact w_ireturn dX12_count_80 rfl rfl ⟨Nat.le_refl _, Nat.le_refl _⟩ w
  · have sv : (l1 : Int32) = 3 := Int32.toInt_inj.mp (sw.trans (by decide))
    refine w_tsw (tgt := 81) dX12_count_6 (by rw [sw]; rfl) (by rw [sw]; decide) ?_
    rw [if_neg (fun q => by rw [q] at sw; revert sw; decide)] at w
    rw [if_neg (fun q => by rw [q] at sw; revert sw; decide)] at w
    rw [if_neg (fun q => by rw [q] at sw; revert sw; decide)] at w
    rw [if_pos sv] at w
    refine w_aload_n dX12_count_81 rfl ?_
    refine w_getp dX12_count_82 lk_RX12_79 e1 rfl ?_
    refine w_iconst (v := 3) dX12_count_85 rfl ?_
    obtain ⟨n7, ln7, w⟩ := w
    obtain ⟨e3, w⟩ := w
    refine w_iald dX12_count_86 ln7 e3 ?_
    exact w_ireturn dX12_count_87 rfl rfl ⟨Nat.le_refl _, Nat.le_refl _⟩ w
  · have sv : (l1 : Int32) = 4 := Int32.toInt_inj.mp (sw.trans (by decide))
    refine w_tsw (tgt := 88) dX12_count_6 (by rw [sw]; rfl) (by rw [sw]; decide) ?_
    rw [if_neg (fun q => by rw [q] at sw; revert sw; decide)] at w
    rw [if_neg (fun q => by rw [q] at sw; revert sw; decide)] at w
    rw [if_neg (fun q => by rw [q] at sw; revert sw; decide)] at w
    rw [if_neg (fun q => by rw [q] at sw; revert sw; decide)] at w
    rw [if_pos sv] at w
    refine w_aload_n dX12_count_88 rfl ?_
    refine w_iconst (v := 0) dX12_count_89 rfl ?_
    refine w_callV (As := [.int 0]) (st := []) dX12_count_90 mt_X12_onFloor g_1758 g_1760 g_111 rfl e1 rfl rfl (Nat.le_of_ble_eq_true rfl) (Nat.le_refl _) ⟨Nat.le_refl _, Nat.le_refl _⟩ w ?_
    rintro v h9 ⟨r8, rfl, w⟩
    exact w_ireturn dX12_count_93 rfl rfl ⟨Nat.le_refl _, Nat.le_refl _⟩ w
  · have sv : (l1 : Int32) = 5 := Int32.toInt_inj.mp (sw.trans (by decide))
    refine w_tsw (tgt := 94) dX12_count_6 (by rw [sw]; rfl) (by rw [sw]; decide) ?_
    rw [if_neg (fun q => by rw [q] at sw; revert sw; decide)] at w
    rw [if_neg (fun q => by rw [q] at sw; revert sw; decide)] at w
    rw [if_neg (fun q => by rw [q] at sw; revert sw; decide)] at w
    rw [if_neg (fun q => by rw [q] at sw; revert sw; decide)] at w
    rw [if_neg (fun q => by rw [q] at sw; revert sw; decide)] at w
    rw [if_pos sv] at w
    refine w_aload_n dX12_count_94 rfl ?_
    refine w_iconst (v := 0) dX12_count_95 rfl ?_
    refine w_iconst (v := (-1)) dX12_count_96 rfl ?_
    refine w_callV (As := [.int 0, .int (-1)]) (st := []) dX12_count_97 mt_X12_raisedIn g_1762 g_1764 g_112 rfl e1 rfl rfl (Nat.le_of_ble_eq_true rfl) (Nat.le_refl _) ⟨Nat.le_refl _, Nat.le_refl _⟩ w ?_
    rintro v h11 ⟨r10, rfl, w⟩
    exact w_ireturn dX12_count_100 rfl rfl ⟨Nat.le_refl _, Nat.le_refl _⟩ w
  · have sv : (l1 : Int32) = 6 := Int32.toInt_inj.mp (sw.trans (by decide))
    refine w_tsw (tgt := 101) dX12_count_6 (by rw [sw]; rfl) (by rw [sw]; decide) ?_
    rw [if_neg (fun q => by rw [q] at sw; revert sw; decide)] at w
    rw [if_neg (fun q => by rw [q] at sw; revert sw; decide)] at w
    rw [if_neg (fun q => by rw [q] at sw; revert sw; decide)] at w
    rw [if_neg (fun q => by rw [q] at sw; revert sw; decide)] at w
    rw [if_neg (fun q => by rw [q] at sw; revert sw; decide)] at w
    rw [if_neg (fun q => by rw [q] at sw; revert sw; decide)] at w
    rw [if_pos sv] at w
    refine w_aload_n dX12_count_101 rfl ?_
    refine w_geti dX12_count_102 lk_RX12_292 e1 rfl ?_
    exact w_ireturn dX12_count_105 rfl rfl ⟨Nat.le_refl _, Nat.le_refl _⟩ w
  · have sv : (l1 : Int32) = 7 := Int32.toInt_inj.mp (sw.trans (by decide))
    refine w_tsw (tgt := 106) dX12_count_6 (by rw [sw]; rfl) (by rw [sw]; decide) ?_
    rw [if_neg (fun q => by rw [q] at sw; revert sw; decide)] at w
    rw [if_neg (fun q => by rw [q] at sw; revert sw; decide)] at w
    rw [if_neg (fun q => by rw [q] at sw; revert sw; decide)] at w
    rw [if_neg (fun q => by rw [q] at sw; revert sw; decide)] at w
    rw [if_neg (fun q => by rw [q] at sw; revert sw; decide)] at w
    rw [if_neg (fun q => by rw [q] at sw; revert sw; decide)] at w
    rw [if_neg (fun q => by rw [q] at sw; revert sw; decide)] at w
    rw [if_pos sv] at w
    refine w_aload_n dX12_count_106 rfl ?_
    refine w_getp dX12_count_107 lk_RX12_88 e1 rfl ?_
    refine w_iconst (v := 0) dX12_count_110 rfl ?_
    obtain ⟨n12, ln12, w⟩ := w
    obtain ⟨e3, w⟩ := w
    refine w_iald dX12_count_111 ln12 e3 ?_
    exact w_ireturn dX12_count_112 rfl rfl ⟨Nat.le_refl _, Nat.le_refl _⟩ w
  · have sv : (l1 : Int32) = 8 := Int32.toInt_inj.mp (sw.trans (by decide))
    refine w_tsw (tgt := 113) dX12_count_6 (by rw [sw]; rfl) (by rw [sw]; decide) ?_
    rw [if_neg (fun q => by rw [q] at sw; revert sw; decide)] at w
    rw [if_neg (fun q => by rw [q] at sw; revert sw; decide)] at w
    rw [if_neg (fun q => by rw [q] at sw; revert sw; decide)] at w
    rw [if_neg (fun q => by rw [q] at sw; revert sw; decide)] at w
    rw [if_neg (fun q => by rw [q] at sw; revert sw; decide)] at w
    rw [if_neg (fun q => by rw [q] at sw; revert sw; decide)] at w
    rw [if_neg (fun q => by rw [q] at sw; revert sw; decide)] at w
    rw [if_neg (fun q => by rw [q] at sw; revert sw; decide)] at w
    rw [if_pos sv] at w
    refine w_aload_n dX12_count_113 rfl ?_
    refine w_getp dX12_count_114 lk_RX12_97 e1 rfl ?_
    refine w_sipush (v := 320) dX12_count_117 rfl ?_
    obtain ⟨n13, ln13, w⟩ := w
    obtain ⟨e3, w⟩ := w
    refine w_iald dX12_count_120 ln13 e3 ?_
    exact w_ireturn dX12_count_121 rfl rfl ⟨Nat.le_refl _, Nat.le_refl _⟩ w
  · have sv : (l1 : Int32) = 9 := Int32.toInt_inj.mp (sw.trans (by decide))
    refine w_tsw (tgt := 122) dX12_count_6 (by rw [sw]; rfl) (by rw [sw]; decide) ?_
    rw [if_neg (fun q => by rw [q] at sw; revert sw; decide)] at w
    rw [if_neg (fun q => by rw [q] at sw; revert sw; decide)] at w
    rw [if_neg (fun q => by rw [q] at sw; revert sw; decide)] at w
    rw [if_neg (fun q => by rw [q] at sw; revert sw; decide)] at w
    rw [if_neg (fun q => by rw [q] at sw; revert sw; decide)] at w
    rw [if_neg (fun q => by rw [q] at sw; revert sw; decide)] at w
    rw [if_neg (fun q => by rw [q] at sw; revert sw; decide)] at w
    rw [if_neg (fun q => by rw [q] at sw; revert sw; decide)] at w
    rw [if_neg (fun q => by rw [q] at sw; revert sw; decide)] at w
    rw [if_pos sv] at w
    refine w_aload_n dX12_count_122 rfl ?_
    refine w_geti dX12_count_123 lk_RX12_289 e1 rfl ?_
    exact w_ireturn dX12_count_126 rfl rfl ⟨Nat.le_refl _, Nat.le_refl _⟩ w
  · have sv : (l1 : Int32) = 10 := Int32.toInt_inj.mp (sw.trans (by decide))
    refine w_tsw (tgt := 127) dX12_count_6 (by rw [sw]; rfl) (by rw [sw]; decide) ?_
    rw [if_neg (fun q => by rw [q] at sw; revert sw; decide)] at w
    rw [if_neg (fun q => by rw [q] at sw; revert sw; decide)] at w
    rw [if_neg (fun q => by rw [q] at sw; revert sw; decide)] at w
    rw [if_neg (fun q => by rw [q] at sw; revert sw; decide)] at w
    rw [if_neg (fun q => by rw [q] at sw; revert sw; decide)] at w
    rw [if_neg (fun q => by rw [q] at sw; revert sw; decide)] at w
    rw [if_neg (fun q => by rw [q] at sw; revert sw; decide)] at w
    rw [if_neg (fun q => by rw [q] at sw; revert sw; decide)] at w
    rw [if_neg (fun q => by rw [q] at sw; revert sw; decide)] at w
    rw [if_neg (fun q => by rw [q] at sw; revert sw; decide)] at w
    rw [if_pos sv] at w
    refine w_aload_n dX12_count_127 rfl ?_
    refine w_geti dX12_count_128 lk_RX12_11 e1 rfl ?_
    exact w_ireturn dX12_count_131 rfl rfl ⟨Nat.le_refl _, Nat.le_refl _⟩ w
