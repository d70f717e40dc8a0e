set_option linter.all false
set_option maxRecDepth 20000 in
set_option maxHeartbeats 4000000 in
theorem x_X0_copyFrom {G : pm_G} {d : Nat} {post : pm_PT} {h : pm_H} {l0 : Nat} {l1 : Nat} (w :
    (h.1[l0]? = some (0, 0)) ∧
    (h.1[l1]? = some (0, 0)) ∧
    (h.1[gp h l0 1]? = some (0, 6)) ∧
    cv G d m_X6_copyFrom [.ref (gp h l0 1), .ref (gp h l1 1)] h fun h2 =>
    (h2.1[l0]? = some (0, 0)) ∧
    (h2.1[l1]? = some (0, 0)) ∧
    (h2.1[gp h2 l0 2]? = some (0, 6)) ∧
    cv G d m_X6_copyFrom [.ref (gp h2 l0 2), .ref (gp h2 l1 2)] h2 fun h4 =>
    (h4.1[l0]? = some (0, 0)) ∧
    (h4.1[l1]? = some (0, 0)) ∧
    (h4.1[gp h4 l0 3]? = some (0, 6)) ∧
    cv G d m_X6_copyFrom [.ref (gp h4 l0 3), .ref (gp h4 l1 3)] h4 fun h6 =>
    (h6.1[l0]? = some (0, 0)) ∧
    (h6.1[l1]? = some (0, 0)) ∧
    (h6.1[gp h6 l0 4]? = some (0, 6)) ∧
    cv G d m_X6_copyFrom [.ref (gp h6 l0 4), .ref (gp h6 l1 4)] h6 fun h8 =>
    (h8.1[l0]? = some (0, 0)) ∧
    (h8.1[l1]? = some (0, 0)) ∧
    (h8.1[gp h8 l0 5]? = some (0, 6)) ∧
    cv G d m_X6_copyFrom [.ref (gp h8 l0 5), .ref (gp h8 l1 5)] h8 fun h10 =>
    (h10.1[l0]? = some (0, 0)) ∧
    (h10.1[l1]? = some (0, 0)) ∧
    (h10.1[gp h10 l0 6]? = some (0, 6)) ∧
    cv G d m_X6_copyFrom [.ref (gp h10 l0 6), .ref (gp h10 l1 6)] h10 fun h12 =>
    (h12.1[l0]? = some (0, 0)) ∧
    (h12.1[l1]? = some (0, 0)) ∧
    (h12.1[gp h12 l0 7]? = some (0, 6)) ∧
    cv G d m_X6_copyFrom [.ref (gp h12 l0 7), .ref (gp h12 l1 7)] h12 fun h14 =>
    (h14.1[l0]? = some (0, 0)) ∧
    (h14.1[l1]? = some (0, 0)) ∧
    (h14.1[gp h14 l0 8]? = some (0, 6)) ∧
    cv G d m_X6_copyFrom [.ref (gp h14 l0 8), .ref (gp h14 l1 8)] h14 fun h16 =>
    (h16.1[l0]? = some (0, 0)) ∧
    (h16.1[l1]? = some (0, 0)) ∧
    (h16.1[gp h16 l0 9]? = some (0, 6)) ∧
    cv G d m_X6_copyFrom [.ref (gp h16 l0 9), .ref (gp h16 l1 9)] h16 fun h18 =>
    (h18.1[l0]? = some (0, 0)) ∧
    (h18.1[l1]? = some (0, 0)) ∧
    (h18.1[gp h18 l0 10]? = some (0, 6)) ∧
    cv G d m_X6_copyFrom [.ref (gp h18 l0 10), .ref (gp h18 l1 10)] h18 fun h20 =>
    (h20.1[l0]? = some (0, 0)) ∧
    (h20.1[l1]? = some (0, 0)) ∧
    (h20.1[gp h20 l0 11]? = some (0, 6)) ∧
    cv G d m_X6_copyFrom [.ref (gp h20 l0 11), .ref (gp h20 l1 11)] h20 fun h22 =>
    (h22.1[l0]? = some (0, 0)) ∧
    (h22.1[l1]? = some (0, 0)) ∧
    (h22.1[gp h22 l0 12]? = some (0, 6)) ∧
    cv G d m_X6_copyFrom [.ref (gp h22 l0 12), .ref (gp h22 l1 12)] h22 fun h24 =>
    (h24.1[l0]? = some (0, 0)) ∧
    (h24.1[l1]? = some (0, 0)) ∧
    (h24.1[gp h24 l0 13]? = some (0, 6)) ∧
    cv G d m_X6_copyFrom [.ref (gp h24 l0 13), .ref (gp h24 l1 13)] h24 fun h26 =>
    (h26.1[l0]? = some (0, 0)) ∧
    (h26.1[l1]? = some (0, 0)) ∧
    (h26.1[gp h26 l0 14]? = some (0, 6)) ∧
    cv G d m_X6_copyFrom [.ref (gp h26 l0 14), .ref (gp h26 l1 14)] h26 fun h28 =>
    (h28.1[l0]? = some (0, 0)) ∧
    (h28.1[l1]? = some (0, 0)) ∧
    (h28.1[gp h28 l0 15]? = some (0, 6)) ∧
    cv G d m_X6_copyFrom [.ref (gp h28 l0 15), .ref (gp h28 l1 15)] h28 fun h30 =>
    post none h30) :
    Wp G (m_X0_copyFrom, d + 1, 0, 0, post) (0, 0) 0 [.ref l0, .ref l1] [] h := by
  refine w_aload_n dX0_copyFrom_0 rfl ?_
  obtain ⟨e1, w⟩ := w
  refine w_getp dX0_copyFrom_1 lk_RX0_16 e1 rfl ?_
  refine w_aload_n dX0_copyFrom_4 rfl ?_
  obtain ⟨e2, w⟩ := w
  refine w_getp dX0_copyFrom_5 lk_RX0_16 e2 rfl ?_
  obtain ⟨e3, w⟩ := w
  refine w_callV (As := [.ref (gp h l1 1)]) (st := []) dX0_copyFrom_8 mt_X6_copyFrom g_976 g_776 g_777 rfl e3 rfl rfl (Nat.le_of_ble_eq_true rfl) (Nat.le_refl _) ⟨Nat.le_refl _, Nat.le_refl _⟩ w ?_
  rintro v h2 ⟨rfl, w⟩
  refine w_aload_n dX0_copyFrom_11 rfl ?_
  obtain ⟨e1, w⟩ := w
  refine w_getp dX0_copyFrom_12 lk_RX0_20 e1 rfl ?_
  refine w_aload_n dX0_copyFrom_15 rfl ?_
  obtain ⟨e2, w⟩ := w
  refine w_getp dX0_copyFrom_16 lk_RX0_20 e2 rfl ?_
  obtain ⟨e3, w⟩ := w
  refine w_callV (As := [.ref (gp h2 l1 2)]) (st := []) dX0_copyFrom_19 mt_X6_copyFrom g_976 g_776 g_777 rfl e3 rfl rfl (Nat.le_of_ble_eq_true rfl) (Nat.le_refl _) ⟨Nat.le_refl _, Nat.le_refl _⟩ w ?_
  rintro v h4 ⟨rfl, w⟩
  refine w_aload_n dX0_copyFrom_22 rfl ?_
  obtain ⟨e1, w⟩ := w
  refine w_getp dX0_copyFrom_23 lk_RX0_23 e1 rfl ?_
  refine w_aload_n dX0_copyFrom_26 rfl ?_
  obtain ⟨e2, w⟩ := w
  refine w_getp dX0_copyFrom_27 lk_RX0_23 e2 rfl ?_
  obtain ⟨e3, w⟩ := w
  refine w_callV (As := [.ref (gp h4 l1 3)]) (st := []) dX0_copyFrom_30 mt_X6_copyFrom g_976 g_776 g_777 rfl e3 rfl rfl (Nat.le_of_ble_eq_true rfl) (Nat.le_refl _) ⟨Nat.le_refl _, Nat.le_refl _⟩ w ?_
  rintro v h6 ⟨rfl, w⟩
  refine w_aload_n dX0_copyFrom_33 rfl ?_
  obtain ⟨e1, w⟩ := w
  refine w_getp dX0_copyFrom_34 lk_RX0_26 e1 rfl ?_
  refine w_aload_n dX0_copyFrom_37 rfl ?_
  obtain ⟨e2, w⟩ := w
  refine w_getp dX0_copyFrom_38 lk_RX0_26 e2 rfl ?_
  obtain ⟨e3, w⟩ := w
  refine w_callV (As := [.ref (gp h6 l1 4)]) (st := []) dX0_copyFrom_41 mt_X6_copyFrom g_976 g_776 g_777 rfl e3 rfl rfl (Nat.le_of_ble_eq_true rfl) (Nat.le_refl _) ⟨Nat.le_refl _, Nat.le_refl _⟩ w ?_
  rintro v h8 ⟨rfl, w⟩
  refine w_aload_n dX0_copyFrom_44 rfl ?_
  obtain ⟨e1, w⟩ := w
  refine w_getp dX0_copyFrom_45 lk_RX0_29 e1 rfl ?_
  refine w_aload_n dX0_copyFrom_48 rfl ?_
  obtain ⟨e2, w⟩ := w
  refine w_getp dX0_copyFrom_49 lk_RX0_29 e2 rfl ?_
  obtain ⟨e3, w⟩ := w
  refine w_callV (As := [.ref (gp h8 l1 5)]) (st := []) dX0_copyFrom_52 mt_X6_copyFrom g_976 g_776 g_777 rfl e3 rfl rfl (Nat.le_of_ble_eq_true rfl) (Nat.le_refl _) ⟨Nat.le_refl _, Nat.le_refl _⟩ w ?_
  rintro v h10 ⟨rfl, w⟩
  refine w_aload_n dX0_copyFrom_55 rfl ?_
  obtain ⟨e1, w⟩ := w
  refine w_getp dX0_copyFrom_56 lk_RX0_32 e1 rfl ?_
  refine w_aload_n dX0_copyFrom_59 rfl ?_
  obtain ⟨e2, w⟩ := w
  refine w_getp dX0_copyFrom_60 lk_RX0_32 e2 rfl ?_
  obtain ⟨e3, w⟩ := w
  refine w_callV (As := [.ref (gp h10 l1 6)]) (st := []) dX0_copyFrom_63 mt_X6_copyFrom g_976 g_776 g_777 rfl e3 rfl rfl (Nat.le_of_ble_eq_true rfl) (Nat.le_refl _) ⟨Nat.le_refl _, Nat.le_refl _⟩ w ?_
  rintro v h12 ⟨rfl, w⟩
  refine w_aload_n dX0_copyFrom_66 rfl ?_
  obtain ⟨e1, w⟩ := w
  refine w_getp dX0_copyFrom_67 lk_RX0_35 e1 rfl ?_
  refine w_aload_n dX0_copyFrom_70 rfl ?_
  obtain ⟨e2, w⟩ := w
  refine w_getp dX0_copyFrom_71 lk_RX0_35 e2 rfl ?_
  obtain ⟨e3, w⟩ := w
  refine w_callV (As := [.ref (gp h12 l1 7)]) (st := []) dX0_copyFrom_74 mt_X6_copyFrom g_976 g_776 g_777 rfl e3 rfl rfl (Nat.le_of_ble_eq_true rfl) (Nat.le_refl _) ⟨Nat.le_refl _, Nat.le_refl _⟩ w ?_
  rintro v h14 ⟨rfl, w⟩
  refine w_aload_n dX0_copyFrom_77 rfl ?_
  obtain ⟨e1, w⟩ := w
  refine w_getp dX0_copyFrom_78 lk_RX0_38 e1 rfl ?_
  refine w_aload_n dX0_copyFrom_81 rfl ?_
  obtain ⟨e2, w⟩ := w
  refine w_getp dX0_copyFrom_82 lk_RX0_38 e2 rfl ?_
  obtain ⟨e3, w⟩ := w
  refine w_callV (As := [.ref (gp h14 l1 8)]) (st := []) dX0_copyFrom_85 mt_X6_copyFrom g_976 g_776 g_777 rfl e3 rfl rfl (Nat.le_of_ble_eq_true rfl) (Nat.le_refl _) ⟨Nat.le_refl _, Nat.le_refl _⟩ w ?_
  rintro v h16 ⟨rfl, w⟩
  refine w_aload_n dX0_copyFrom_88 rfl ?_
  obtain ⟨e1, w⟩ := w
  refine w_getp dX0_copyFrom_89 lk_RX0_41 e1 rfl ?_
  refine w_aload_n dX0_copyFrom_92 rfl ?_
  obtain ⟨e2, w⟩ := w
  refine w_getp dX0_copyFrom_93 lk_RX0_41 e2 rfl ?_
  obtain ⟨e3, w⟩ := w
  refine w_callV (As := [.ref (gp h16 l1 9)]) (st := []) dX0_copyFrom_96 mt_X6_copyFrom g_976 g_776 g_777 rfl e3 rfl rfl (Nat.le_of_ble_eq_true rfl) (Nat.le_refl _) ⟨Nat.le_refl _, Nat.le_refl _⟩ w ?_
  rintro v h18 ⟨rfl, w⟩
  refine w_aload_n dX0_copyFrom_99 rfl ?_
  obtain ⟨e1, w⟩ := w
  refine w_getp dX0_copyFrom_100 lk_RX0_44 e1 rfl ?_
  refine w_aload_n dX0_copyFrom_103 rfl ?_
  obtain ⟨e2, w⟩ := w
  refine w_getp dX0_copyFrom_104 lk_RX0_44 e2 rfl ?_
  obtain ⟨e3, w⟩ := w
  refine w_callV (As := [.ref (gp h18 l1 10)]) (st := []) dX0_copyFrom_107 mt_X6_copyFrom g_976 g_776 g_777 rfl e3 rfl rfl (Nat.le_of_ble_eq_true rfl) (Nat.le_refl _) ⟨Nat.le_refl _, Nat.le_refl _⟩ w ?_
  rintro v h20 ⟨rfl, w⟩
  refine w_aload_n dX0_copyFrom_110 rfl ?_
  obtain ⟨e1, w⟩ := w
  refine w_getp dX0_copyFrom_111 lk_RX0_47 e1 rfl ?_
  refine w_aload_n dX0_copyFrom_114 rfl ?_
  obtain ⟨e2, w⟩ := w
  refine w_getp dX0_copyFrom_115 lk_RX0_47 e2 rfl ?_
  obtain ⟨e3, w⟩ := w
  refine w_callV (As := [.ref (gp h20 l1 11)]) (st := []) dX0_copyFrom_118 mt_X6_copyFrom g_976 g_776 g_777 rfl e3 rfl rfl (Nat.le_of_ble_eq_true rfl) (Nat.le_refl _) ⟨Nat.le_refl _, Nat.le_refl _⟩ w ?_
  rintro v h22 ⟨rfl, w⟩
  refine w_aload_n dX0_copyFrom_121 rfl ?_
  obtain ⟨e1, w⟩ := w
  refine w_getp dX0_copyFrom_122 lk_RX0_50 e1 rfl ?_
  refine w_aload_n dX0_copyFrom_125 rfl ?_
  obtain ⟨e2, w⟩ := w
  refine w_getp dX0_copyFrom_126 lk_RX0_50 e2 rfl ?_
  obtain ⟨e3, w⟩ := w
  refine w_callV (As := [.ref (gp h22 l1 12)]) (st := []) dX0_copyFrom_129 mt_X6_copyFrom g_976 g_776 g_777 rfl e3 rfl rfl (Nat.le_of_ble_eq_true rfl) (Nat.le_refl _) ⟨Nat.le_refl _, Nat.le_refl _⟩ w ?_
  rintro v h24 ⟨rfl, w⟩
  refine w_aload_n dX0_copyFrom_132 rfl ?_
  obtain ⟨e1, w⟩ := w
  refine w_getp dX0_copyFrom_133 lk_RX0_53 e1 rfl ?_
  refine w_aload_n dX0_copyFrom_136 rfl ?_
  obtain ⟨e2, w⟩ := w
  refine w_getp dX0_copyFrom_137 lk_RX0_53 e2 rfl ?_
  obtain ⟨e3, w⟩ := w
  refine w_callV (As := [.ref (gp h24 l1 13)]) (st := []) dX0_copyFrom_140 mt_X6_copyFrom g_976 g_776 g_777 rfl e3 rfl rfl (Nat.le_of_ble_eq_true rfl) (Nat.le_refl _) ⟨Nat.le_refl _, Nat.le_refl _⟩ w ?_
  rintro v h26 ⟨rfl, w⟩
  refine w_aload_n dX0_copyFrom_143 rfl ?_
  obtain ⟨e1, w⟩ := w
  refine w_getp dX0_copyFrom_144 lk_RX0_56 e1 rfl ?_
  refine w_aload_n dX0_copyFrom_147 rfl ?_
  obtain ⟨e2, w⟩ := w
  refine w_getp dX0_copyFrom_148 lk_RX0_56 e2 rfl ?_
  obtain ⟨e3, w⟩ := w
  refine w_callV (As := [.ref (gp h26 l1 14)]) (st := []) dX0_copyFrom_151 mt_X6_copyFrom g_976 g_776 g_777 rfl e3 rfl rfl (Nat.le_of_ble_eq_true rfl) (Nat.le_refl _) ⟨Nat.le_refl _, Nat.le_refl _⟩ w ?_
  rintro v h28 ⟨rfl, w⟩
  refine w_aload_n dX0_copyFrom_154 rfl ?_
  obtain ⟨e1, w⟩ := w
  refine w_getp dX0_copyFrom_155 lk_RX0_59 e1 rfl ?_
  refine w_aload_n dX0_copyFrom_158 rfl ?_
  obtain ⟨e2, w⟩ := w
  refine w_getp dX0_copyFrom_159 lk_RX0_59 e2 rfl ?_
  obtain ⟨e3, w⟩ := w
  refine w_callV (As := [.ref (gp h28 l1 15)]) (st := []) dX0_copyFrom_162 mt_X6_copyFrom g_976 g_776 g_777 rfl e3 rfl rfl (Nat.le_of_ble_eq_true rfl) (Nat.le_refl _) ⟨Nat.le_refl _, Nat.le_refl _⟩ w ?_
  rintro v h30 ⟨rfl, w⟩
  exact w_return dX0_copyFrom_165 rfl ⟨Nat.le_refl _, Nat.le_refl _⟩ w
set_option maxRecDepth 20000 in
set_option maxHeartbeats 4000000 in
theorem x_X0_clear {G : pm_G} {d : Nat} {post : pm_PT} {h : pm_H} {l0 : Nat} (w :
    (h.1[l0]? = some (0, 0)) ∧
    (h.1[gp h l0 1]? = some (0, 6)) ∧
    cv G d m_X6_fill [.ref (gp h l0 1), .int (-1)] h fun h2 =>
    (h2.1[l0]? = some (0, 0)) ∧
    (h2.1[gp h2 l0 10]? = some (0, 6)) ∧
    cv G d m_X6_fill [.ref (gp h2 l0 10), .int (-1)] h2 fun h4 =>
    (h4.1[l0]? = some (0, 0)) ∧
    (h4.1[gp h4 l0 12]? = some (0, 6)) ∧
    cv G d m_X6_fill [.ref (gp h4 l0 12), .int (-1)] h4 fun h6 =>
    (h6.1[l0]? = some (0, 0)) ∧
    (h6.1[gp h6 l0 13]? = some (0, 6)) ∧
    cv G d m_X6_fill [.ref (gp h6 l0 13), .int (-1)] h6 fun h8 =>
    (h8.1[l0]? = some (0, 0)) ∧
    (h8.1[gp h8 l0 14]? = some (0, 6)) ∧
    cv G d m_X6_fill [.ref (gp h8 l0 14), .int (-1)] h8 fun h10 =>
    (h10.1[l0]? = some (0, 0)) ∧
    (h10.1[gp h10 l0 15]? = some (0, 6)) ∧
    cv G d m_X6_fill [.ref (gp h10 l0 15), .int (-1)] h10 fun h12 =>
    post none h12) :
    Wp G (m_X0_clear, d + 1, 0, 0, post) (0, 0) 0 [.ref l0] [] h := by
  refine w_aload_n dX0_clear_0 rfl ?_
  obtain ⟨e1, w⟩ := w
  refine w_getp dX0_clear_1 lk_RX0_16 e1 rfl ?_
  refine w_iconst (v := (-1)) dX0_clear_4 rfl ?_
  obtain ⟨e2, w⟩ := w
  refine w_callV (As := [.int (-1)]) (st := []) dX0_clear_5 mt_X6_fill g_796 g_241 g_242 rfl e2 rfl rfl (Nat.le_of_ble_eq_true rfl) (Nat.le_refl _) ⟨Nat.le_refl _, Nat.le_refl _⟩ w ?_
  rintro v h2 ⟨rfl, w⟩
  refine w_aload_n dX0_clear_8 rfl ?_
  obtain ⟨e1, w⟩ := w
  refine w_getp dX0_clear_9 lk_RX0_44 e1 rfl ?_
  refine w_iconst (v := (-1)) dX0_clear_12 rfl ?_
  obtain ⟨e2, w⟩ := w
  refine w_callV (As := [.int (-1)]) (st := []) dX0_clear_13 mt_X6_fill g_796 g_241 g_242 rfl e2 rfl rfl (Nat.le_of_ble_eq_true rfl) (Nat.le_refl _) ⟨Nat.le_refl _, Nat.le_refl _⟩ w ?_
  rintro v h4 ⟨rfl, w⟩
  refine w_aload_n dX0_clear_16 rfl ?_
  obtain ⟨e1, w⟩ := w
  refine w_getp dX0_clear_17 lk_RX0_50 e1 rfl ?_
  refine w_iconst (v := (-1)) dX0_clear_20 rfl ?_
  obtain ⟨e2, w⟩ := w
  refine w_callV (As := [.int (-1)]) (st := []) dX0_clear_21 mt_X6_fill g_796 g_241 g_242 rfl e2 rfl rfl (Nat.le_of_ble_eq_true rfl) (Nat.le_refl _) ⟨Nat.le_refl _, Nat.le_refl _⟩ w ?_
  rintro v h6 ⟨rfl, w⟩
  refine w_aload_n dX0_clear_24 rfl ?_
  obtain ⟨e1, w⟩ := w
  refine w_getp dX0_clear_25 lk_RX0_53 e1 rfl ?_
  refine w_iconst (v := (-1)) dX0_clear_28 rfl ?_
  obtain ⟨e2, w⟩ := w
  refine w_callV (As := [.int (-1)]) (st := []) dX0_clear_29 mt_X6_fill g_796 g_241 g_242 rfl e2 rfl rfl (Nat.le_of_ble_eq_true rfl) (Nat.le_refl _) ⟨Nat.le_refl _, Nat.le_refl _⟩ w ?_
  rintro v h8 ⟨rfl, w⟩
  refine w_aload_n dX0_clear_32 rfl ?_
  obtain ⟨e1, w⟩ := w
  refine w_getp dX0_clear_33 lk_RX0_56 e1 rfl ?_
  refine w_iconst (v := (-1)) dX0_clear_36 rfl ?_
  obtain ⟨e2, w⟩ := w
  refine w_callV (As := [.int (-1)]) (st := []) dX0_clear_37 mt_X6_fill g_796 g_241 g_242 rfl e2 rfl rfl (Nat.le_of_ble_eq_true rfl) (Nat.le_refl _) ⟨Nat.le_refl _, Nat.le_refl _⟩ w ?_
  rintro v h10 ⟨rfl, w⟩
  refine w_aload_n dX0_clear_40 rfl ?_
  obtain ⟨e1, w⟩ := w
  refine w_getp dX0_clear_41 lk_RX0_59 e1 rfl ?_
  refine w_iconst (v := (-1)) dX0_clear_44 rfl ?_
  obtain ⟨e2, w⟩ := w
  refine w_callV (As := [.int (-1)]) (st := []) dX0_clear_45 mt_X6_fill g_796 g_241 g_242 rfl e2 rfl rfl (Nat.le_of_ble_eq_true rfl) (Nat.le_refl _) ⟨Nat.le_refl _, Nat.le_refl _⟩ w ?_
  rintro v h12 ⟨rfl, w⟩
  exact w_return dX0_clear_48 rfl ⟨Nat.le_refl _, Nat.le_refl _⟩ w
set_option maxRecDepth 20000 in
set_option maxHeartbeats 4000000 in
theorem x_X0_tell {G : pm_G} {d : Nat} {post : pm_PT} {h : pm_H} {l0 : Nat} (w :
    (h.1[l0]? = some (0, 0)) ∧
    cv G d m_X0_clear [.ref l0] h fun h2 =>
    Wp G (m_X0_tell, d + 1, 0, 0, post) (0, 0) 6 [.ref l0, .int 0] [] h2) :
    Wp G (m_X0_tell, d + 1, 0, 0, post) (0, 0) 0 [.ref l0, .null] [] h := by
  refine w_aload_n dX0_tell_0 rfl ?_
  obtain ⟨e1, w⟩ := w
  refine w_callV (As := []) (st := []) dX0_tell_1 mt_X0_clear g_792 g_793 g_794 rfl e1 rfl rfl (Nat.le_of_ble_eq_true rfl) (Nat.le_refl _) ⟨Nat.le_refl _, Nat.le_refl _⟩ w ?_
  rintro v h2 ⟨rfl, w⟩
  refine w_iconst (v := 0) dX0_tell_4 rfl ?_
  refine v_istore_n (l' := [.ref l0, .int 0]) dX0_tell_5 (Nat.le_of_ble_eq_true rfl) rfl ?_
  exact w
set_option maxRecDepth 20000 in
set_option maxHeartbeats 4000000 in
theorem x_X0_tell_6 {G : pm_G} {d : Nat} {post : pm_PT} {h : pm_H} {l0 : Nat} {l1 : Int32} (w :
    (h.1[l0]? = some (0, 0)) ∧
    (h.1[gp h l0 0]? = some (0, 4)) ∧
    (h.1[gp h (gp h l0 0) 2]? = some (0, 3)) ∧
    if (gi h (gp h (gp h l0 0) 2) 1) ≤ l1 then (
      post none h
    ) else (
      (h.1[gp h (gp h l0 0) 5]? = some (0, 6)) ∧
      ci G d m_X6_at [.ref (gp h (gp h l0 0) 5), .int l1] h fun r1 h2 =>
      (h2.1[l0]? = some (0, 0)) ∧
      ci G d m_X0_putIn [.ref l0, .int l1, .int r1] h2 fun r3 h4 =>
      Wp G (m_X0_tell, d + 1, 0, 0, post) (0, 0) 6 [.ref l0, .int (l1 + 1)] [] h4
    )) :
    Wp G (m_X0_tell, d + 1, 0, 0, post) (0, 0) 6 [.ref l0, .int l1] [] h := by
  refine w_iload_n dX0_tell_6 rfl ?_
  refine w_aload_n dX0_tell_7 rfl ?_
  obtain ⟨e1, w⟩ := w
  refine w_getp dX0_tell_8 lk_RX0_62 e1 rfl ?_
  obtain ⟨e2, w⟩ := w
  refine w_getp dX0_tell_11 lk_RX0_76 e2 rfl ?_
  obtain ⟨e3, w⟩ := w
  refine w_geti dX0_tell_14 lk_RX0_82 e3 rfl ?_
  refine w_ic_ge (tgt := 43) dX0_tell_17 rfl (fun c => ?_) (fun c => ?_)
  · rw [if_pos c] at w
    exact w_return dX0_tell_43 rfl ⟨Nat.le_refl _, Nat.le_refl _⟩ w
  · rw [if_neg c] at w
    refine w_aload_n dX0_tell_20 rfl ?_
    refine w_iload_n dX0_tell_21 rfl ?_
    refine w_aload_n dX0_tell_22 rfl ?_
    refine w_getp dX0_tell_23 lk_RX0_62 e1 rfl ?_
    refine w_getp dX0_tell_26 lk_RX0_88 e2 rfl ?_
    refine w_iload_n dX0_tell_29 rfl ?_
    obtain ⟨e4, w⟩ := w
    refine w_callV (As := [.int l1]) (st := [.int l1, .ref l0]) dX0_tell_30 mt_X6_at g_797 g_724 g_725 rfl e4 rfl rfl (Nat.le_of_ble_eq_true rfl) (Nat.le_refl _) ⟨Nat.le_refl _, Nat.le_refl _⟩ w ?_
    rintro v h2 ⟨r1, rfl, w⟩
    obtain ⟨e1, w⟩ := w
    refine w_callV (As := [.int l1, .int r1]) (st := []) dX0_tell_33 mt_X0_putIn g_798 g_799 g_800 rfl e1 rfl rfl (Nat.le_of_ble_eq_true rfl) (Nat.le_refl _) ⟨Nat.le_refl _, Nat.le_refl _⟩ w ?_
    rintro v h4 ⟨r3, rfl, w⟩
    refine w_pop dX0_tell_36 rfl ?_
    refine v_iinc (l' := [.ref l0, .int (l1 + 1)]) (v := l1 + 1) dX0_tell_37 rfl rfl (Nat.le_of_ble_eq_true rfl) rfl ?_
    refine w_goto (tgt := 6) dX0_tell_40 rfl ?_
    exact w
set_option maxRecDepth 20000 in
set_option maxHeartbeats 4000000 in
theorem x_X0_putIn {G : pm_G} {d : Nat} {post : pm_PT} {h : pm_H} {l0 : Nat} {l1 : Int32} {l2 : Int32} (w :
    (h.1[l0]? = some (0, 0)) ∧
    (h.1[gp h l0 13]? = some (0, 6)) ∧
    ci G d m_X6_at [.ref (gp h l0 13), .int l1] h fun r1 h2 =>
    if r1 = (-1) then (
      (h2.1[l0]? = some (0, 0)) ∧
      (h2.1[gp h2 l0 14]? = some (0, 6)) ∧
      cv G d m_X6_set [.ref (gp h2 l0 14), .int l1, .int (-1)] h2 fun h4 =>
      (h4.1[l0]? = some (0, 0)) ∧
      (h4.1[gp h4 l0 15]? = some (0, 6)) ∧
      cv G d m_X6_set [.ref (gp h4 l0 15), .int l1, .int (-1)] h4 fun h6 =>
      (h6.1[l0]? = some (0, 0)) ∧
      (h6.1[gp h6 l0 13]? = some (0, 6)) ∧
      cv G d m_X6_set [.ref (gp h6 l0 13), .int l1, .int l2] h6 fun h8 =>
      (h8.1[l0]? = some (0, 0)) ∧
      ci G d m_X0_newNode [.ref l0, .int 0, .int 1] h8 fun r9 h10 =>
      (h10.1[l0]? = some (0, 0)) ∧
      (h10.1[gp h10 l0 3]? = some (0, 6)) ∧
      cv G d m_X6_set [.ref (gp h10 l0 3), .int r9, .int l1] h10 fun h12 =>
      (h12.1[l0]? = some (0, 0)) ∧
      (h12.1[gp h12 l0 4]? = some (0, 6)) ∧
      cv G d m_X6_set [.ref (gp h12 l0 4), .int r9, .int l1] h12 fun h14 =>
      (h14.1[l0]? = some (0, 0)) ∧
      (h14.1[gp h14 l0 5]? = some (0, 6)) ∧
      cv G d m_X6_set [.ref (gp h14 l0 5), .int r9, .int l1] h14 fun h16 =>
      (h16.1[l0]? = some (0, 0)) ∧
      (h16.1[gp h16 l0 6]? = some (0, 6)) ∧
      cv G d m_X6_set [.ref (gp h16 l0 6), .int r9, .int 1] h16 fun h18 =>
      (h18.1[l0]? = some (0, 0)) ∧
      (h18.1[gp h18 l0 11]? = some (0, 6)) ∧
      cv G d m_X6_set [.ref (gp h18 l0 11), .int l1, .int (-1)] h18 fun h20 =>
      (h20.1[l0]? = some (0, 0)) ∧
      (h20.1[gp h20 l0 12]? = some (0, 6)) ∧
      cv G d m_X6_set [.ref (gp h20 l0 12), .int l1, .int r9] h20 fun h22 =>
      (h22.1[l0]? = some (0, 0)) ∧
      cv G d m_X0_join [.ref l0, .int r9, .int l2] h22 fun h24 =>
      post (some (.int 1)) h24
    ) else (
      post (some (.int 0)) h2
    )) :
    Wp G (m_X0_putIn, d + 1, 0, 0, post) (0, 0) 0 [.ref l0, .int l1, .int l2, .null] [] h := by
  refine w_aload_n dX0_putIn_0 rfl ?_
  obtain ⟨e1, w⟩ := w
  refine w_getp dX0_putIn_1 lk_RX0_53 e1 rfl ?_
  refine w_iload_n dX0_putIn_4 rfl ?_
  obtain ⟨e2, w⟩ := w
  refine w_callV (As := [.int l1]) (st := []) dX0_putIn_5 mt_X6_at g_797 g_724 g_725 rfl e2 rfl rfl (Nat.le_of_ble_eq_true rfl) (Nat.le_refl _) ⟨Nat.le_refl _, Nat.le_refl _⟩ w ?_
  rintro v h2 ⟨r1, rfl, w⟩
  refine w_iconst (v := (-1)) dX0_putIn_8 rfl ?_
  refine w_ic_eq (tgt := 14) dX0_putIn_9 rfl (fun c => ?_) (fun c => ?_)
  · rw [if_pos c] at w
    refine w_aload_n dX0_putIn_14 rfl ?_
    obtain ⟨e1, w⟩ := w
    refine w_getp dX0_putIn_15 lk_RX0_56 e1 rfl ?_
    refine w_iload_n dX0_putIn_18 rfl ?_
    refine w_iconst (v := (-1)) dX0_putIn_19 rfl ?_
    obtain ⟨e2, w⟩ := w
    refine w_callV (As := [.int l1, .int (-1)]) (st := []) dX0_putIn_20 mt_X6_set g_802 g_667 g_668 rfl e2 rfl rfl (Nat.le_of_ble_eq_true rfl) (Nat.le_refl _) ⟨Nat.le_refl _, Nat.le_refl _⟩ w ?_
    rintro v h4 ⟨rfl, w⟩
    refine w_aload_n dX0_putIn_23 rfl ?_
    obtain ⟨e1, w⟩ := w
    refine w_getp dX0_putIn_24 lk_RX0_59 e1 rfl ?_
    refine w_iload_n dX0_putIn_27 rfl ?_
    refine w_iconst (v := (-1)) dX0_putIn_28 rfl ?_
    obtain ⟨e2, w⟩ := w
    refine w_callV (As := [.int l1, .int (-1)]) (st := []) dX0_putIn_29 mt_X6_set g_802 g_667 g_668 rfl e2 rfl rfl (Nat.le_of_ble_eq_true rfl) (Nat.le_refl _) ⟨Nat.le_refl _, Nat.le_refl _⟩ w ?_
    rintro v h6 ⟨rfl, w⟩
    refine w_aload_n dX0_putIn_32 rfl ?_
    obtain ⟨e1, w⟩ := w
    refine w_getp dX0_putIn_33 lk_RX0_53 e1 rfl ?_
    refine w_iload_n dX0_putIn_36 rfl ?_
    refine w_iload_n dX0_putIn_37 rfl ?_
    obtain ⟨e2, w⟩ := w
    refine w_callV (As := [.int l1, .int l2]) (st := []) dX0_putIn_38 mt_X6_set g_802 g_667 g_668 rfl e2 rfl rfl (Nat.le_of_ble_eq_true rfl) (Nat.le_refl _) ⟨Nat.le_refl _, Nat.le_refl _⟩ w ?_
    rintro v h8 ⟨rfl, w⟩
    refine w_aload_n dX0_putIn_41 rfl ?_
    refine w_iconst (v := 0) dX0_putIn_42 rfl ?_
    refine w_iconst (v := 1) dX0_putIn_43 rfl ?_
    obtain ⟨e1, w⟩ := w
    refine w_callV (As := [.int 0, .int 1]) (st := []) dX0_putIn_44 mt_X0_newNode g_803 g_805 g_25 rfl e1 rfl rfl (Nat.le_of_ble_eq_true rfl) (Nat.le_refl _) ⟨Nat.le_refl _, Nat.le_refl _⟩ w ?_
    rintro v h10 ⟨r9, rfl, w⟩
    refine v_istore_n (l' := [.ref l0, .int l1, .int l2, .int r9]) dX0_putIn_47 (Nat.le_of_ble_eq_true rfl) rfl ?_
    refine w_aload_n dX0_putIn_48 rfl ?_
    obtain ⟨e1, w⟩ := w
    refine w_getp dX0_putIn_49 lk_RX0_23 e1 rfl ?_
    refine w_iload_n dX0_putIn_52 rfl ?_
    refine w_iload_n dX0_putIn_53 rfl ?_
    obtain ⟨e2, w⟩ := w
    refine w_callV (As := [.int r9, .int l1]) (st := []) dX0_putIn_54 mt_X6_set g_802 g_667 g_668 rfl e2 rfl rfl (Nat.le_of_ble_eq_true rfl) (Nat.le_refl _) ⟨Nat.le_refl _, Nat.le_refl _⟩ w ?_
    rintro v h12 ⟨rfl, w⟩
    refine w_aload_n dX0_putIn_57 rfl ?_
    obtain ⟨e1, w⟩ := w
    refine w_getp dX0_putIn_58 lk_RX0_26 e1 rfl ?_
    refine w_iload_n dX0_putIn_61 rfl ?_
    refine w_iload_n dX0_putIn_62 rfl ?_
    obtain ⟨e2, w⟩ := w
    refine w_callV (As := [.int r9, .int l1]) (st := []) dX0_putIn_63 mt_X6_set g_802 g_667 g_668 rfl e2 rfl rfl (Nat.le_of_ble_eq_true rfl) (Nat.le_refl _) ⟨Nat.le_refl _, Nat.le_refl _⟩ w ?_
    rintro v h14 ⟨rfl, w⟩
    refine w_aload_n dX0_putIn_66 rfl ?_
    obtain ⟨e1, w⟩ := w
    refine w_getp dX0_putIn_67 lk_RX0_29 e1 rfl ?_
    refine w_iload_n dX0_putIn_70 rfl ?_
    refine w_iload_n dX0_putIn_71 rfl ?_
    obtain ⟨e2, w⟩ := w
    refine w_callV (As := [.int r9, .int l1]) (st := []) dX0_putIn_72 mt_X6_set g_802 g_667 g_668 rfl e2 rfl rfl (Nat.le_of_ble_eq_true rfl) (Nat.le_refl _) ⟨Nat.le_refl _, Nat.le_refl _⟩ w ?_
    rintro v h16 ⟨rfl, w⟩
    refine w_aload_n dX0_putIn_75 rfl ?_
    obtain ⟨e1, w⟩ := w
    refine w_getp dX0_putIn_76 lk_RX0_32 e1 rfl ?_
    refine w_iload_n dX0_putIn_79 rfl ?_
    refine w_iconst (v := 1) dX0_putIn_80 rfl ?_
    obtain ⟨e2, w⟩ := w
    refine w_callV (As := [.int r9, .int 1]) (st := []) dX0_putIn_81 mt_X6_set g_802 g_667 g_668 rfl e2 rfl rfl (Nat.le_of_ble_eq_true rfl) (Nat.le_refl _) ⟨Nat.le_refl _, Nat.le_refl _⟩ w ?_
    rintro v h18 ⟨rfl, w⟩
    refine w_aload_n dX0_putIn_84 rfl ?_
    obtain ⟨e1, w⟩ := w
    refine w_getp dX0_putIn_85 lk_RX0_47 e1 rfl ?_
    refine w_iload_n dX0_putIn_88 rfl ?_
    refine w_iconst (v := (-1)) dX0_putIn_89 rfl ?_
    obtain ⟨e2, w⟩ := w
    refine w_callV (As := [.int l1, .int (-1)]) (st := []) dX0_putIn_90 mt_X6_set g_802 g_667 g_668 rfl e2 rfl rfl (Nat.le_of_ble_eq_true rfl) (Nat.le_refl _) ⟨Nat.le_refl _, Nat.le_refl _⟩ w ?_
    rintro v h20 ⟨rfl, w⟩
    refine w_aload_n dX0_putIn_93 rfl ?_
    obtain ⟨e1, w⟩ := w
    refine w_getp dX0_putIn_94 lk_RX0_50 e1 rfl ?_
    refine w_iload_n dX0_putIn_97 rfl ?_
    refine w_iload_n dX0_putIn_98 rfl ?_
    obtain ⟨e2, w⟩ := w
    refine w_callV (As := [.int l1, .int r9]) (st := []) dX0_putIn_99 mt_X6_set g_802 g_667 g_668 rfl e2 rfl rfl (Nat.le_of_ble_eq_true rfl) (Nat.le_refl _) ⟨Nat.le_refl _, Nat.le_refl _⟩ w ?_
    rintro v h22 ⟨rfl, w⟩
    refine w_aload_n dX0_putIn_102 rfl ?_
    refine w_iload_n dX0_putIn_103 rfl ?_
    refine w_iload_n dX0_putIn_104 rfl ?_
    obtain ⟨e1, w⟩ := w
    refine w_callV (As := [.int r9, .int l2]) (st := []) dX0_putIn_105 mt_X0_join g_807 g_809 g_26 rfl e1 rfl rfl (Nat.le_of_ble_eq_true rfl) (Nat.le_refl _) ⟨Nat.le_refl _, Nat.le_refl _⟩ w ?_
    rintro v h24 ⟨rfl, w⟩
    refine w_iconst (v := 1) dX0_putIn_108 rfl ?_
    exact w_ireturn dX0_putIn_109 rfl rfl ⟨Nat.le_refl _, Nat.le_refl _⟩ w
  · rw [if_neg c] at w
    refine w_iconst (v := 0) dX0_putIn_12 rfl ?_
    exact w_ireturn dX0_putIn_13 rfl rfl ⟨Nat.le_refl _, Nat.le_refl _⟩ w
set_option maxRecDepth 20000 in
set_option maxHeartbeats 4000000 in
theorem x_X0_takeFrom {G : pm_G} {d : Nat} {post : pm_PT} {h : pm_H} {l0 : Nat} {l1 : Int32} (w :
    (h.1[l0]? = some (0, 0)) ∧
    ci G d m_X0_leastRoot [.ref l0, .int l1] h fun r1 h2 =>
    if r1 = (-1) then (
      post (some (.int (-1))) h2
    ) else (
      (h2.1[l0]? = some (0, 0)) ∧
      (h2.1[gp h2 l0 4]? = some (0, 6)) ∧
      ci G d m_X6_at [.ref (gp h2 l0 4), .int r1] h2 fun r3 h4 =>
      (h4.1[l0]? = some (0, 0)) ∧
      (h4.1[gp h4 l0 11]? = some (0, 6)) ∧
      ci G d m_X6_at [.ref (gp h4 l0 11), .int r3] h4 fun r5 h6 =>
      (h6.1[gp h4 l0 4]? = some (0, 6)) ∧
      cv G d m_X6_set [.ref (gp h4 l0 4), .int r1, .int r5] h6 fun h8 =>
      (h8.1[l0]? = some (0, 0)) ∧
      (h8.1[gp h8 l0 6]? = some (0, 6)) ∧
      ci G d m_X6_at [.ref (gp h8 l0 6), .int r1] h8 fun r9 h10 =>
      (h10.1[gp h8 l0 6]? = some (0, 6)) ∧
      cv G d m_X6_set [.ref (gp h8 l0 6), .int r1, .int (r9 - 1)] h10 fun h12 =>
      (h12.1[l0]? = some (0, 0)) ∧
      (h12.1[gp h12 l0 11]? = some (0, 6)) ∧
      cv G d m_X6_set [.ref (gp h12 l0 11), .int r3, .int (-1)] h12 fun h14 =>
      (h14.1[l0]? = some (0, 0)) ∧
      (h14.1[gp h14 l0 12]? = some (0, 6)) ∧
      cv G d m_X6_set [.ref (gp h14 l0 12), .int r3, .int (-1)] h14 fun h16 =>
      (h16.1[l0]? = some (0, 0)) ∧
      (h16.1[gp h16 l0 13]? = some (0, 6)) ∧
      cv G d m_X6_set [.ref (gp h16 l0 13), .int r3, .int (-1)] h16 fun h18 =>
      (h18.1[l0]? = some (0, 0)) ∧
      (h18.1[gp h18 l0 6]? = some (0, 6)) ∧
      ci G d m_X6_at [.ref (gp h18 l0 6), .int r1] h18 fun r19 h20 =>
      (h20.1[l0]? = some (0, 0)) ∧
      (h20.1[gp h20 l0 2]? = some (0, 6)) ∧
      ci G d m_X6_at [.ref (gp h20 l0 2), .int r1] h20 fun r21 h22 =>
      if (r21 / 2) < r19 then (
        post (some (.int r3)) h22
      ) else (
        (h22.1[l0]? = some (0, 0)) ∧
        ci G d m_X0_isLeaf [.ref l0, .int r1] h22 fun r23 h24 =>
        if r23 = 0 then (
          (h24.1[l0]? = some (0, 0)) ∧
          cv G d m_X0_sift [.ref l0, .int r1] h24 fun h26 =>
          post (some (.int r3)) h26
        ) else (
          (h24.1[l0]? = some (0, 0)) ∧
          (h24.1[gp h24 l0 6]? = some (0, 6)) ∧
          ci G d m_X6_at [.ref (gp h24 l0 6), .int r1] h24 fun r27 h28 =>
          if r27 = 0 then (
            (h28.1[l0]? = some (0, 0)) ∧
            (h28.1[gp h28 l0 1]? = some (0, 6)) ∧
            ci G d m_X6_at [.ref (gp h28 l0 1), .int r1] h28 fun r29 h30 =>
            ci G d m_X0_slot [.int l1, .int r29] h30 fun r31 h32 =>
            (h32.1[gp h28 l0 10]? = some (0, 6)) ∧
            cv G d m_X6_set [.ref (gp h28 l0 10), .int r31, .int (-1)] h32 fun h34 =>
            (h34.1[l0]? = some (0, 0)) ∧
            (h34.1[gp h34 l0 1]? = some (0, 6)) ∧
            cv G d m_X6_set [.ref (gp h34 l0 1), .int r1, .int (-1)] h34 fun h36 =>
            post (some (.int r3)) h36
          ) else (
            post (some (.int r3)) h28
          )
        )
      )
    )) :
    Wp G (m_X0_takeFrom, d + 1, 0, 0, post) (0, 0) 0 [.ref l0, .int l1, .null, .null] [] h := by
  refine w_aload_n dX0_takeFrom_0 rfl ?_
  refine w_iload_n dX0_takeFrom_1 rfl ?_
  obtain ⟨e1, w⟩ := w
  refine w_callV (As := [.int l1]) (st := []) dX0_takeFrom_2 mt_X0_leastRoot g_987 g_989 g_39 rfl e1 rfl rfl (Nat.le_of_ble_eq_true rfl) (Nat.le_refl _) ⟨Nat.le_refl _, Nat.le_refl _⟩ w ?_
  rintro v h2 ⟨r1, rfl, w⟩
  refine v_istore_n (l' := [.ref l0, .int l1, .int r1, .null]) dX0_takeFrom_5 (Nat.le_of_ble_eq_true rfl) rfl ?_
  refine w_iload_n dX0_takeFrom_6 rfl ?_
  refine w_iconst (v := (-1)) dX0_takeFrom_7 rfl ?_
  refine w_ic_ne (tgt := 13) dX0_takeFrom_8 rfl (fun c => ?_) (fun c => ?_)
  · rw [if_neg c] at w
    refine w_aload_n dX0_takeFrom_13 rfl ?_
    obtain ⟨e1, w⟩ := w
    refine w_getp dX0_takeFrom_14 lk_RX0_26 e1 rfl ?_
    refine w_iload_n dX0_takeFrom_17 rfl ?_
    obtain ⟨e2, w⟩ := w
    refine w_callV (As := [.int r1]) (st := []) dX0_takeFrom_18 mt_X6_at g_797 g_724 g_725 rfl e2 rfl rfl (Nat.le_of_ble_eq_true rfl) (Nat.le_refl _) ⟨Nat.le_refl _, Nat.le_refl _⟩ w ?_
    rintro v h4 ⟨r3, rfl, w⟩
    refine v_istore_n (l' := [.ref l0, .int l1, .int r1, .int r3]) dX0_takeFrom_21 (Nat.le_of_ble_eq_true rfl) rfl ?_
    refine w_aload_n dX0_takeFrom_22 rfl ?_
    obtain ⟨e1, w⟩ := w
    refine w_getp dX0_takeFrom_23 lk_RX0_26 e1 rfl ?_
    refine w_iload_n dX0_takeFrom_26 rfl ?_
    refine w_aload_n dX0_takeFrom_27 rfl ?_
    refine w_getp dX0_takeFrom_28 lk_RX0_47 e1 rfl ?_
    refine w_iload_n dX0_takeFrom_31 rfl ?_
    obtain ⟨e2, w⟩ := w
    refine w_callV (As := [.int r3]) (st := [.int r1, .ref (gp h4 l0 4)]) dX0_takeFrom_32 mt_X6_at g_797 g_724 g_725 rfl e2 rfl rfl (Nat.le_of_ble_eq_true rfl) (Nat.le_refl _) ⟨Nat.le_refl _, Nat.le_refl _⟩ w ?_
    rintro v h6 ⟨r5, rfl, w⟩
    obtain ⟨e1, w⟩ := w
    refine w_callV (As := [.int r1, .int r5]) (st := []) dX0_takeFrom_35 mt_X6_set g_802 g_667 g_668 rfl e1 rfl rfl (Nat.le_of_ble_eq_true rfl) (Nat.le_refl _) ⟨Nat.le_refl _, Nat.le_refl _⟩ w ?_
    rintro v h8 ⟨rfl, w⟩
    refine w_aload_n dX0_takeFrom_38 rfl ?_
    obtain ⟨e1, w⟩ := w
    refine w_getp dX0_takeFrom_39 lk_RX0_32 e1 rfl ?_
    refine w_iload_n dX0_takeFrom_42 rfl ?_
    refine w_aload_n dX0_takeFrom_43 rfl ?_
    refine w_getp dX0_takeFrom_44 lk_RX0_32 e1 rfl ?_
    refine w_iload_n dX0_takeFrom_47 rfl ?_
    obtain ⟨e2, w⟩ := w
    refine w_callV (As := [.int r1]) (st := [.int r1, .ref (gp h8 l0 6)]) dX0_takeFrom_48 mt_X6_at g_797 g_724 g_725 rfl e2 rfl rfl (Nat.le_of_ble_eq_true rfl) (Nat.le_refl _) ⟨Nat.le_refl _, Nat.le_refl _⟩ w ?_
    rintro v h10 ⟨r9, rfl, w⟩
    refine w_iconst (v := 1) dX0_takeFrom_51 rfl ?_
    refine w_isub dX0_takeFrom_52 ?_
    obtain ⟨e1, w⟩ := w
    refine w_callV (As := [.int r1, .int (r9 - 1)]) (st := []) dX0_takeFrom_53 mt_X6_set g_802 g_667 g_668 rfl e1 rfl rfl (Nat.le_of_ble_eq_true rfl) (Nat.le_refl _) ⟨Nat.le_refl _, Nat.le_refl _⟩ w ?_
    rintro v h12 ⟨rfl, w⟩
    refine w_aload_n dX0_takeFrom_56 rfl ?_
    obtain ⟨e1, w⟩ := w
    refine w_getp dX0_takeFrom_57 lk_RX0_47 e1 rfl ?_
    refine w_iload_n dX0_takeFrom_60 rfl ?_
    refine w_iconst (v := (-1)) dX0_takeFrom_61 rfl ?_
    obtain ⟨e2, w⟩ := w
    refine w_callV (As := [.int r3, .int (-1)]) (st := []) dX0_takeFrom_62 mt_X6_set g_802 g_667 g_668 rfl e2 rfl rfl (Nat.le_of_ble_eq_true rfl) (Nat.le_refl _) ⟨Nat.le_refl _, Nat.le_refl _⟩ w ?_
    rintro v h14 ⟨rfl, w⟩
    refine w_aload_n dX0_takeFrom_65 rfl ?_
    obtain ⟨e1, w⟩ := w
    refine w_getp dX0_takeFrom_66 lk_RX0_50 e1 rfl ?_
    refine w_iload_n dX0_takeFrom_69 rfl ?_
    refine w_iconst (v := (-1)) dX0_takeFrom_70 rfl ?_
    obtain ⟨e2, w⟩ := w
    refine w_callV (As := [.int r3, .int (-1)]) (st := []) dX0_takeFrom_71 mt_X6_set g_802 g_667 g_668 rfl e2 rfl rfl (Nat.le_of_ble_eq_true rfl) (Nat.le_refl _) ⟨Nat.le_refl _, Nat.le_refl _⟩ w ?_
    rintro v h16 ⟨rfl, w⟩
    refine w_aload_n dX0_takeFrom_74 rfl ?_
    obtain ⟨e1, w⟩ := w
    refine w_getp dX0_takeFrom_75 lk_RX0_53 e1 rfl ?_
    refine w_iload_n dX0_takeFrom_78 rfl ?_
    refine w_iconst (v := (-1)) dX0_takeFrom_79 rfl ?_
    obtain ⟨e2, w⟩ := w
    refine w_callV (As := [.int r3, .int (-1)]) (st := []) dX0_takeFrom_80 mt_X6_set g_802 g_667 g_668 rfl e2 rfl rfl (Nat.le_of_ble_eq_true rfl) (Nat.le_refl _) ⟨Nat.le_refl _, Nat.le_refl _⟩ w ?_
    rintro v h18 ⟨rfl, w⟩
    refine w_aload_n dX0_takeFrom_83 rfl ?_
    obtain ⟨e1, w⟩ := w
    refine w_getp dX0_takeFrom_84 lk_RX0_32 e1 rfl ?_
    refine w_iload_n dX0_takeFrom_87 rfl ?_
    obtain ⟨e2, w⟩ := w
    refine w_callV (As := [.int r1]) (st := []) dX0_takeFrom_88 mt_X6_at g_797 g_724 g_725 rfl e2 rfl rfl (Nat.le_of_ble_eq_true rfl) (Nat.le_refl _) ⟨Nat.le_refl _, Nat.le_refl _⟩ w ?_
    rintro v h20 ⟨r19, rfl, w⟩
    refine w_aload_n dX0_takeFrom_91 rfl ?_
    obtain ⟨e1, w⟩ := w
    refine w_getp dX0_takeFrom_92 lk_RX0_20 e1 rfl ?_
    refine w_iload_n dX0_takeFrom_95 rfl ?_
    obtain ⟨e2, w⟩ := w
    refine w_callV (As := [.int r1]) (st := [.int r19]) dX0_takeFrom_96 mt_X6_at g_797 g_724 g_725 rfl e2 rfl rfl (Nat.le_of_ble_eq_true rfl) (Nat.le_refl _) ⟨Nat.le_refl _, Nat.le_refl _⟩ w ?_
    rintro v h22 ⟨r21, rfl, w⟩
    refine w_iconst (v := 2) dX0_takeFrom_99 rfl ?_
    refine w_idiv dX0_takeFrom_100 (by decide) ?_
    refine w_ic_gt (tgt := 160) dX0_takeFrom_101 rfl (fun c => ?_) (fun c => ?_)
    · rw [if_pos c] at w
      refine w_iload_n dX0_takeFrom_160 rfl ?_
      exact w_ireturn dX0_takeFrom_161 rfl rfl ⟨Nat.le_refl _, Nat.le_refl _⟩ w
    · rw [if_neg c] at w
      refine w_aload_n dX0_takeFrom_104 rfl ?_
      refine w_iload_n dX0_takeFrom_105 rfl ?_
      obtain ⟨e1, w⟩ := w
      refine w_callV (As := [.int r1]) (st := []) dX0_takeFrom_106 mt_X0_isLeaf g_839 g_841 g_29 rfl e1 rfl rfl (Nat.le_of_ble_eq_true rfl) (Nat.le_refl _) ⟨Nat.le_refl _, Nat.le_refl _⟩ w ?_
      rintro v h24 ⟨r23, rfl, w⟩
      refine w_if_ne (tgt := 120) dX0_takeFrom_109 rfl (fun c => ?_) (fun c => ?_)
      · rw [if_neg c] at w
        refine w_aload_n dX0_takeFrom_120 rfl ?_
        obtain ⟨e1, w⟩ := w
        refine w_getp dX0_takeFrom_121 lk_RX0_32 e1 rfl ?_
        refine w_iload_n dX0_takeFrom_124 rfl ?_
        obtain ⟨e2, w⟩ := w
        refine w_callV (As := [.int r1]) (st := []) dX0_takeFrom_125 mt_X6_at g_797 g_724 g_725 rfl e2 rfl rfl (Nat.le_of_ble_eq_true rfl) (Nat.le_refl _) ⟨Nat.le_refl _, Nat.le_refl _⟩ w ?_
        rintro v h28 ⟨r27, rfl, w⟩
        refine w_if_ne (tgt := 160) dX0_takeFrom_128 rfl (fun c => ?_) (fun c => ?_)
        · rw [if_neg c] at w
          refine w_iload_n dX0_takeFrom_160 rfl ?_
          exact w_ireturn dX0_takeFrom_161 rfl rfl ⟨Nat.le_refl _, Nat.le_refl _⟩ w
        · rw [if_pos c] at w
          refine w_aload_n dX0_takeFrom_131 rfl ?_
          obtain ⟨e1, w⟩ := w
          refine w_getp dX0_takeFrom_132 lk_RX0_44 e1 rfl ?_
          refine w_iload_n dX0_takeFrom_135 rfl ?_
          refine w_aload_n dX0_takeFrom_136 rfl ?_
          refine w_getp dX0_takeFrom_137 lk_RX0_16 e1 rfl ?_
          refine w_iload_n dX0_takeFrom_140 rfl ?_
          obtain ⟨e2, w⟩ := w
          refine w_callV (As := [.int r1]) (st := [.int l1, .ref (gp h28 l0 10)]) dX0_takeFrom_141 mt_X6_at g_797 g_724 g_725 rfl e2 rfl rfl (Nat.le_of_ble_eq_true rfl) (Nat.le_refl _) ⟨Nat.le_refl _, Nat.le_refl _⟩ w ?_
          rintro v h30 ⟨r29, rfl, w⟩
          refine w_callS (As := [.int l1, .int r29]) (st := [.ref (gp h28 l0 10)]) dX0_takeFrom_144 mt_X0_slot g_815 g_816 rfl rfl (Nat.le_of_ble_eq_true rfl) (Nat.le_refl _) ⟨Nat.le_refl _, Nat.le_refl _⟩ w ?_
          rintro v h32 ⟨r31, rfl, w⟩
          refine w_iconst (v := (-1)) dX0_takeFrom_147 rfl ?_
          obtain ⟨e1, w⟩ := w
          refine w_callV (As := [.int r31, .int (-1)]) (st := []) dX0_takeFrom_148 mt_X6_set g_802 g_667 g_668 rfl e1 rfl rfl (Nat.le_of_ble_eq_true rfl) (Nat.le_refl _) ⟨Nat.le_refl _, Nat.le_refl _⟩ w ?_
          rintro v h34 ⟨rfl, w⟩
          refine w_aload_n dX0_takeFrom_151 rfl ?_
          obtain ⟨e1, w⟩ := w
          refine w_getp dX0_takeFrom_152 lk_RX0_16 e1 rfl ?_
          refine w_iload_n dX0_takeFrom_155 rfl ?_
          refine w_iconst (v := (-1)) dX0_takeFrom_156 rfl ?_
          obtain ⟨e2, w⟩ := w
          refine w_callV (As := [.int r1, .int (-1)]) (st := []) dX0_takeFrom_157 mt_X6_set g_802 g_667 g_668 rfl e2 rfl rfl (Nat.le_of_ble_eq_true rfl) (Nat.le_refl _) ⟨Nat.le_refl _, Nat.le_refl _⟩ w ?_
          rintro v h36 ⟨rfl, w⟩
          refine w_iload_n dX0_takeFrom_160 rfl ?_
          exact w_ireturn dX0_takeFrom_161 rfl rfl ⟨Nat.le_refl _, Nat.le_refl _⟩ w
      · rw [if_pos c] at w
        refine w_aload_n dX0_takeFrom_112 rfl ?_
        refine w_iload_n dX0_takeFrom_113 rfl ?_
        obtain ⟨e1, w⟩ := w
        refine w_callV (As := [.int r1]) (st := []) dX0_takeFrom_114 mt_X0_sift g_834 g_836 g_28 rfl e1 rfl rfl (Nat.le_of_ble_eq_true rfl) (Nat.le_refl _) ⟨Nat.le_refl _, Nat.le_refl _⟩ w ?_
        rintro v h26 ⟨rfl, w⟩
        refine w_goto (tgt := 160) dX0_takeFrom_117 rfl ?_
        refine w_iload_n dX0_takeFrom_160 rfl ?_
        exact w_ireturn dX0_takeFrom_161 rfl rfl ⟨Nat.le_refl _, Nat.le_refl _⟩ w
  · rw [if_pos c] at w
    refine w_iconst (v := (-1)) dX0_takeFrom_11 rfl ?_
    exact w_ireturn dX0_takeFrom_12 rfl rfl ⟨Nat.le_refl _, Nat.le_refl _⟩ w
set_option maxRecDepth 20000 in
set_option maxHeartbeats 4000000 in
theorem x_X0_meldInto {G : pm_G} {d : Nat} {post : pm_PT} {h : pm_H} {l0 : Nat} {l1 : Int32} {l2 : Int32} (w :
    if l1 = l2 then (
      post (some (.int 0)) h
    ) else (
      Wp G (m_X0_meldInto, d + 1, 0, 0, post) (0, 0) 9 [.ref l0, .int l1, .int l2, .int 0, .null, .null] [] h
    )) :
    Wp G (m_X0_meldInto, d + 1, 0, 0, post) (0, 0) 0 [.ref l0, .int l1, .int l2, .null, .null, .null] [] h := by
  refine w_iload_n dX0_meldInto_0 rfl ?_
  refine w_iload_n dX0_meldInto_1 rfl ?_
  refine w_ic_ne (tgt := 7) dX0_meldInto_2 rfl (fun c => ?_) (fun c => ?_)
  · rw [if_neg c] at w
    refine w_iconst (v := 0) dX0_meldInto_7 rfl ?_
    refine v_istore_n (l' := [.ref l0, .int l1, .int l2, .int 0, .null, .null]) dX0_meldInto_8 (Nat.le_of_ble_eq_true rfl) rfl ?_
    exact w
  · rw [if_pos c] at w
    refine w_iconst (v := 0) dX0_meldInto_5 rfl ?_
    exact w_ireturn dX0_meldInto_6 rfl rfl ⟨Nat.le_refl _, Nat.le_refl _⟩ w
set_option maxRecDepth 20000 in
set_option maxHeartbeats 4000000 in
theorem x_X0_meldInto_9 {G : pm_G} {d : Nat} {post : pm_PT} {h : pm_H} {l0 : Nat} {l1 : Int32} {l2 : Int32} {l3 : Int32} (w :
    if 24 ≤ l3 then (
      post (some (.int 1)) h
    ) else (
      (h.1[l0]? = some (0, 0)) ∧
      ci G d m_X0_slot [.int l1, .int l3] h fun r1 h2 =>
      (h2.1[gp h l0 10]? = some (0, 6)) ∧
      ci G d m_X6_at [.ref (gp h l0 10), .int r1] h2 fun r3 h4 =>
      if r3 = (-1) then (
        Wp G (m_X0_meldInto, d + 1, 0, 0, post) (0, 0) 9 [.ref l0, .int l1, .int l2, .int (l3 + 1), .null, .null] [] h4
      ) else (
        (h4.1[l0]? = some (0, 0)) ∧
        ci G d m_X0_slot [.int l1, .int l3] h4 fun r5 h6 =>
        (h6.1[gp h4 l0 10]? = some (0, 6)) ∧
        cv G d m_X6_set [.ref (gp h4 l0 10), .int r5, .int (-1)] h6 fun h8 =>
        Wp G (m_X0_meldInto, d + 1, 0, 0, post) (0, 0) 51 [.ref l0, .int l1, .int l2, .int l3, .int r3, .int 0] [] h8
      )
    )) :
    Wp G (m_X0_meldInto, d + 1, 0, 0, post) (0, 0) 9 [.ref l0, .int l1, .int l2, .int l3, .null, .null] [] h := by
  refine w_iload_n dX0_meldInto_9 rfl ?_
  refine w_bipush (v := 24) dX0_meldInto_10 rfl ?_
  refine w_ic_ge (tgt := 105) dX0_meldInto_12 rfl (fun c => ?_) (fun c => ?_)
  · rw [if_pos c] at w
    refine w_iconst (v := 1) dX0_meldInto_105 rfl ?_
    exact w_ireturn dX0_meldInto_106 rfl rfl ⟨Nat.le_refl _, Nat.le_refl _⟩ w
  · rw [if_neg c] at w
    refine w_aload_n dX0_meldInto_15 rfl ?_
    obtain ⟨e1, w⟩ := w
    refine w_getp dX0_meldInto_16 lk_RX0_44 e1 rfl ?_
    refine w_iload_n dX0_meldInto_19 rfl ?_
    refine w_iload_n dX0_meldInto_20 rfl ?_
    refine w_callS (As := [.int l1, .int l3]) (st := [.ref (gp h l0 10)]) dX0_meldInto_21 mt_X0_slot g_815 g_816 rfl rfl (Nat.le_of_ble_eq_true rfl) (Nat.le_refl _) ⟨Nat.le_refl _, Nat.le_refl _⟩ w ?_
    rintro v h2 ⟨r1, rfl, w⟩
    obtain ⟨e1, w⟩ := w
    refine w_callV (As := [.int r1]) (st := []) dX0_meldInto_24 mt_X6_at g_797 g_724 g_725 rfl e1 rfl rfl (Nat.le_of_ble_eq_true rfl) (Nat.le_refl _) ⟨Nat.le_refl _, Nat.le_refl _⟩ w ?_
    rintro v h4 ⟨r3, rfl, w⟩
    refine v_istore (l' := [.ref l0, .int l1, .int l2, .int l3, .int r3, .null]) dX0_meldInto_27 (Nat.le_of_ble_eq_true rfl) rfl ?_
    refine w_iload dX0_meldInto_29 rfl ?_
    refine w_iconst (v := (-1)) dX0_meldInto_31 rfl ?_
    refine w_ic_eq (tgt := 99) dX0_meldInto_32 rfl (fun c => ?_) (fun c => ?_)
    · rw [if_pos c] at w
      refine v_iinc (l' := [.ref l0, .int l1, .int l2, .int (l3 + 1), .int r3, .null]) (v := l3 + 1) dX0_meldInto_99 rfl rfl (Nat.le_of_ble_eq_true rfl) rfl ?_
      refine w_goto (tgt := 9) dX0_meldInto_102 rfl ?_
      exact w_drop (l' := [.ref l0, .int l1, .int l2, .int (l3 + 1), .null, .null]) ⟨Or.inr rfl, Or.inr rfl, Or.inr rfl, Or.inr rfl, Or.inl rfl, Or.inl rfl, trivial⟩ w
    · rw [if_neg c] at w
      refine w_aload_n dX0_meldInto_35 rfl ?_
      obtain ⟨e1, w⟩ := w
      refine w_getp dX0_meldInto_36 lk_RX0_44 e1 rfl ?_
      refine w_iload_n dX0_meldInto_39 rfl ?_
      refine w_iload_n dX0_meldInto_40 rfl ?_
      refine w_callS (As := [.int l1, .int l3]) (st := [.ref (gp h4 l0 10)]) dX0_meldInto_41 mt_X0_slot g_815 g_816 rfl rfl (Nat.le_of_ble_eq_true rfl) (Nat.le_refl _) ⟨Nat.le_refl _, Nat.le_refl _⟩ w ?_
      rintro v h6 ⟨r5, rfl, w⟩
      refine w_iconst (v := (-1)) dX0_meldInto_44 rfl ?_
      obtain ⟨e1, w⟩ := w
      refine w_callV (As := [.int r5, .int (-1)]) (st := []) dX0_meldInto_45 mt_X6_set g_802 g_667 g_668 rfl e1 rfl rfl (Nat.le_of_ble_eq_true rfl) (Nat.le_refl _) ⟨Nat.le_refl _, Nat.le_refl _⟩ w ?_
      rintro v h8 ⟨rfl, w⟩
      refine w_iconst (v := 0) dX0_meldInto_48 rfl ?_
      refine v_istore (l' := [.ref l0, .int l1, .int l2, .int l3, .int r3, .int 0]) dX0_meldInto_49 (Nat.le_of_ble_eq_true rfl) rfl ?_
      exact w
set_option maxRecDepth 20000 in
set_option maxHeartbeats 4000000 in
theorem x_X0_meldInto_51 {G : pm_G} {d : Nat} {post : pm_PT} {h : pm_H} {l0 : Nat} {l1 : Int32} {l2 : Int32} {l3 : Int32} {l4 : Int32} {l5 : Int32} (w :
    if 20 ≤ l5 then (
      (h.1[l0]? = some (0, 0)) ∧
      cv G d m_X0_join [.ref l0, .int l4, .int l2] h fun h2 =>
      Wp G (m_X0_meldInto, d + 1, 0, 0, post) (0, 0) 9 [.ref l0, .int l1, .int l2, .int (l3 + 1), .null, .null] [] h2
    ) else (
      (h.1[l0]? = some (0, 0)) ∧
      (h.1[gp h l0 12]? = some (0, 6)) ∧
      ci G d m_X6_at [.ref (gp h l0 12), .int l5] h fun r3 h4 =>
      (h4.1[l0]? = some (0, 0)) ∧
      ci G d m_X0_rootOver [.ref l0, .int r3] h4 fun r5 h6 =>
      if r5 = l4 then (
        (h6.1[l0]? = some (0, 0)) ∧
        (h6.1[gp h6 l0 13]? = some (0, 6)) ∧
        cv G d m_X6_set [.ref (gp h6 l0 13), .int l5, .int l2] h6 fun h8 =>
        Wp G (m_X0_meldInto, d + 1, 0, 0, post) (0, 0) 51 [.ref l0, .int l1, .int l2, .int l3, .int l4, .int (l5 + 1)] [] h8
      ) else (
        Wp G (m_X0_meldInto, d + 1, 0, 0, post) (0, 0) 51 [.ref l0, .int l1, .int l2, .int l3, .int l4, .int (l5 + 1)] [] h6
      )
    )) :
    Wp G (m_X0_meldInto, d + 1, 0, 0, post) (0, 0) 51 [.ref l0, .int l1, .int l2, .int l3, .int l4, .int l5] [] h := by
  refine w_iload dX0_meldInto_51 rfl ?_
  refine w_bipush (v := 20) dX0_meldInto_53 rfl ?_
  refine w_ic_ge (tgt := 92) dX0_meldInto_55 rfl (fun c => ?_) (fun c => ?_)
  · rw [if_pos c] at w
    refine w_aload_n dX0_meldInto_92 rfl ?_
    refine w_iload dX0_meldInto_93 rfl ?_
    refine w_iload_n dX0_meldInto_95 rfl ?_
    obtain ⟨e1, w⟩ := w
    refine w_callV (As := [.int l4, .int l2]) (st := []) dX0_meldInto_96 mt_X0_join g_807 g_809 g_26 rfl e1 rfl rfl (Nat.le_of_ble_eq_true rfl) (Nat.le_refl _) ⟨Nat.le_refl _, Nat.le_refl _⟩ w ?_
    rintro v h2 ⟨rfl, w⟩
    refine v_iinc (l' := [.ref l0, .int l1, .int l2, .int (l3 + 1), .int l4, .int l5]) (v := l3 + 1) dX0_meldInto_99 rfl rfl (Nat.le_of_ble_eq_true rfl) rfl ?_
    refine w_goto (tgt := 9) dX0_meldInto_102 rfl ?_
    exact w_drop (l' := [.ref l0, .int l1, .int l2, .int (l3 + 1), .null, .null]) ⟨Or.inr rfl, Or.inr rfl, Or.inr rfl, Or.inr rfl, Or.inl rfl, Or.inl rfl, trivial⟩ w
  · rw [if_neg c] at w
    refine w_aload_n dX0_meldInto_58 rfl ?_
    refine w_aload_n dX0_meldInto_59 rfl ?_
    obtain ⟨e1, w⟩ := w
    refine w_getp dX0_meldInto_60 lk_RX0_50 e1 rfl ?_
    refine w_iload dX0_meldInto_63 rfl ?_
    obtain ⟨e2, w⟩ := w
    refine w_callV (As := [.int l5]) (st := [.ref l0]) dX0_meldInto_65 mt_X6_at g_797 g_724 g_725 rfl e2 rfl rfl (Nat.le_of_ble_eq_true rfl) (Nat.le_refl _) ⟨Nat.le_refl _, Nat.le_refl _⟩ w ?_
    rintro v h4 ⟨r3, rfl, w⟩
    obtain ⟨e1, w⟩ := w
    refine w_callV (As := [.int r3]) (st := []) dX0_meldInto_68 mt_X0_rootOver g_936 g_938 g_35 rfl e1 rfl rfl (Nat.le_of_ble_eq_true rfl) (Nat.le_refl _) ⟨Nat.le_refl _, Nat.le_refl _⟩ w ?_
    rintro v h6 ⟨r5, rfl, w⟩
    refine w_iload dX0_meldInto_71 rfl ?_
    refine w_ic_ne (tgt := 86) dX0_meldInto_73 rfl (fun c => ?_) (fun c => ?_)
    · rw [if_neg c] at w
      refine v_iinc (l' := [.ref l0, .int l1, .int l2, .int l3, .int l4, .int (l5 + 1)]) (v := l5 + 1) dX0_meldInto_86 rfl rfl (Nat.le_of_ble_eq_true rfl) rfl ?_
      refine w_goto (tgt := 51) dX0_meldInto_89 rfl ?_
      exact w
    · rw [if_pos c] at w
      refine w_aload_n dX0_meldInto_76 rfl ?_
      obtain ⟨e1, w⟩ := w
      refine w_getp dX0_meldInto_77 lk_RX0_53 e1 rfl ?_
      refine w_iload dX0_meldInto_80 rfl ?_
      refine w_iload_n dX0_meldInto_82 rfl ?_
      obtain ⟨e2, w⟩ := w
      refine w_callV (As := [.int l5, .int l2]) (st := []) dX0_meldInto_83 mt_X6_set g_802 g_667 g_668 rfl e2 rfl rfl (Nat.le_of_ble_eq_true rfl) (Nat.le_refl _) ⟨Nat.le_refl _, Nat.le_refl _⟩ w ?_
      rintro v h8 ⟨rfl, w⟩
      refine v_iinc (l' := [.ref l0, .int l1, .int l2, .int l3, .int l4, .int (l5 + 1)]) (v := l5 + 1) dX0_meldInto_86 rfl rfl (Nat.le_of_ble_eq_true rfl) rfl ?_
      refine w_goto (tgt := 51) dX0_meldInto_89 rfl ?_
      exact w
set_option maxRecDepth 20000 in
set_option maxHeartbeats 4000000 in
theorem x_X0_shelveFrom {G : pm_G} {d : Nat} {post : pm_PT} {h : pm_H} {l0 : Nat} {l1 : Int32} {l2 : Int32} (w :
    (h.1[l0]? = some (0, 0)) ∧
    ci G d m_X0_takeFrom [.ref l0, .int l1] h fun r1 h2 =>
    if r1 = (-1) then (
      post (some (.int (-1))) h2
    ) else (
      (h2.1[l0]? = some (0, 0)) ∧
      ci G d m_X0_freePlace [.ref l0, .int l2] h2 fun r3 h4 =>
      if r3 = (-1) then (
        post (some (.int 0)) h4
      ) else (
        (h4.1[l0]? = some (0, 0)) ∧
        (h4.1[gp h4 l0 0]? = some (0, 4)) ∧
        (h4.1[gp h4 (gp h4 l0 0) 4]? = some (0, 6)) ∧
        ci G d m_X6_at [.ref (gp h4 (gp h4 l0 0) 4), .int r1] h4 fun r5 h6 =>
        (h6.1[l0]? = some (0, 0)) ∧
        (h6.1[gp h6 l0 0]? = some (0, 4)) ∧
        (h6.1[gp h6 (gp h6 l0 0) 3]? = some (0, 6)) ∧
        ci G d m_X6_at [.ref (gp h6 (gp h6 l0 0) 3), .int l2] h6 fun r7 h8 =>
        if r5 = r7 then (
          (h8.1[l0]? = some (0, 0)) ∧
          (h8.1[gp h8 l0 14]? = some (0, 6)) ∧
          cv G d m_X6_set [.ref (gp h8 l0 14), .int r1, .int l2] h8 fun h10 =>
          (h10.1[l0]? = some (0, 0)) ∧
          (h10.1[gp h10 l0 15]? = some (0, 6)) ∧
          cv G d m_X6_set [.ref (gp h10 l0 15), .int r1, .int r3] h10 fun h12 =>
          post (some (.int 1)) h12
        ) else (
          post (some (.int 0)) h8
        )
      )
    )) :
    Wp G (m_X0_shelveFrom, d + 1, 0, 0, post) (0, 0) 0 [.ref l0, .int l1, .int l2, .null, .null] [] h := by
  refine w_aload_n dX0_shelveFrom_0 rfl ?_
  refine w_iload_n dX0_shelveFrom_1 rfl ?_
  obtain ⟨e1, w⟩ := w
  refine w_callV (As := [.int l1]) (st := []) dX0_shelveFrom_2 mt_X0_takeFrom g_1007 g_984 g_985 rfl e1 rfl rfl (Nat.le_of_ble_eq_true rfl) (Nat.le_refl _) ⟨Nat.le_refl _, Nat.le_refl _⟩ w ?_
  rintro v h2 ⟨r1, rfl, w⟩
  refine v_istore_n (l' := [.ref l0, .int l1, .int l2, .int r1, .null]) dX0_shelveFrom_5 (Nat.le_of_ble_eq_true rfl) rfl ?_
  refine w_iload_n dX0_shelveFrom_6 rfl ?_
  refine w_iconst (v := (-1)) dX0_shelveFrom_7 rfl ?_
  refine w_ic_ne (tgt := 13) dX0_shelveFrom_8 rfl (fun c => ?_) (fun c => ?_)
  · rw [if_neg c] at w
    refine w_aload_n dX0_shelveFrom_13 rfl ?_
    refine w_iload_n dX0_shelveFrom_14 rfl ?_
    obtain ⟨e1, w⟩ := w
    refine w_callV (As := [.int l2]) (st := []) dX0_shelveFrom_15 mt_X0_freePlace g_1008 g_1010 g_40 rfl e1 rfl rfl (Nat.le_of_ble_eq_true rfl) (Nat.le_refl _) ⟨Nat.le_refl _, Nat.le_refl _⟩ w ?_
    rintro v h4 ⟨r3, rfl, w⟩
    refine v_istore (l' := [.ref l0, .int l1, .int l2, .int r1, .int r3]) dX0_shelveFrom_18 (Nat.le_of_ble_eq_true rfl) rfl ?_
    refine w_iload dX0_shelveFrom_20 rfl ?_
    refine w_iconst (v := (-1)) dX0_shelveFrom_22 rfl ?_
    refine w_ic_eq (tgt := 51) dX0_shelveFrom_23 rfl (fun c => ?_) (fun c => ?_)
    · rw [if_pos c] at w
      refine w_iconst (v := 0) dX0_shelveFrom_51 rfl ?_
      exact w_ireturn dX0_shelveFrom_52 rfl rfl ⟨Nat.le_refl _, Nat.le_refl _⟩ w
    · rw [if_neg c] at w
      refine w_aload_n dX0_shelveFrom_26 rfl ?_
      obtain ⟨e1, w⟩ := w
      refine w_getp dX0_shelveFrom_27 lk_RX0_62 e1 rfl ?_
      obtain ⟨e2, w⟩ := w
      refine w_getp dX0_shelveFrom_30 lk_RX0_132 e2 rfl ?_
      refine w_iload_n dX0_shelveFrom_33 rfl ?_
      obtain ⟨e3, w⟩ := w
      refine w_callV (As := [.int r1]) (st := []) dX0_shelveFrom_34 mt_X6_at g_797 g_724 g_725 rfl e3 rfl rfl (Nat.le_of_ble_eq_true rfl) (Nat.le_refl _) ⟨Nat.le_refl _, Nat.le_refl _⟩ w ?_
      rintro v h6 ⟨r5, rfl, w⟩
      refine w_aload_n dX0_shelveFrom_37 rfl ?_
      obtain ⟨e1, w⟩ := w
      refine w_getp dX0_shelveFrom_38 lk_RX0_62 e1 rfl ?_
      obtain ⟨e2, w⟩ := w
      refine w_getp dX0_shelveFrom_41 lk_RX0_135 e2 rfl ?_
      refine w_iload_n dX0_shelveFrom_44 rfl ?_
      obtain ⟨e3, w⟩ := w
      refine w_callV (As := [.int l2]) (st := [.int r5]) dX0_shelveFrom_45 mt_X6_at g_797 g_724 g_725 rfl e3 rfl rfl (Nat.le_of_ble_eq_true rfl) (Nat.le_refl _) ⟨Nat.le_refl _, Nat.le_refl _⟩ w ?_
      rintro v h8 ⟨r7, rfl, w⟩
      refine w_ic_eq (tgt := 53) dX0_shelveFrom_48 rfl (fun c => ?_) (fun c => ?_)
      · rw [if_pos c] at w
        refine w_aload_n dX0_shelveFrom_53 rfl ?_
        obtain ⟨e1, w⟩ := w
        refine w_getp dX0_shelveFrom_54 lk_RX0_56 e1 rfl ?_
        refine w_iload_n dX0_shelveFrom_57 rfl ?_
        refine w_iload_n dX0_shelveFrom_58 rfl ?_
        obtain ⟨e2, w⟩ := w
        refine w_callV (As := [.int r1, .int l2]) (st := []) dX0_shelveFrom_59 mt_X6_set g_802 g_667 g_668 rfl e2 rfl rfl (Nat.le_of_ble_eq_true rfl) (Nat.le_refl _) ⟨Nat.le_refl _, Nat.le_refl _⟩ w ?_
        rintro v h10 ⟨rfl, w⟩
        refine w_aload_n dX0_shelveFrom_62 rfl ?_
        obtain ⟨e1, w⟩ := w
        refine w_getp dX0_shelveFrom_63 lk_RX0_59 e1 rfl ?_
        refine w_iload_n dX0_shelveFrom_66 rfl ?_
        refine w_iload dX0_shelveFrom_67 rfl ?_
        obtain ⟨e2, w⟩ := w
        refine w_callV (As := [.int r1, .int r3]) (st := []) dX0_shelveFrom_69 mt_X6_set g_802 g_667 g_668 rfl e2 rfl rfl (Nat.le_of_ble_eq_true rfl) (Nat.le_refl _) ⟨Nat.le_refl _, Nat.le_refl _⟩ w ?_
        rintro v h12 ⟨rfl, w⟩
        refine w_iconst (v := 1) dX0_shelveFrom_72 rfl ?_
        exact w_ireturn dX0_shelveFrom_73 rfl rfl ⟨Nat.le_refl _, Nat.le_refl _⟩ w
      · rw [if_neg c] at w
        refine w_iconst (v := 0) dX0_shelveFrom_51 rfl ?_
        exact w_ireturn dX0_shelveFrom_52 rfl rfl ⟨Nat.le_refl _, Nat.le_refl _⟩ w
  · rw [if_pos c] at w
    refine w_iconst (v := (-1)) dX0_shelveFrom_11 rfl ?_
    exact w_ireturn dX0_shelveFrom_12 rfl rfl ⟨Nat.le_refl _, Nat.le_refl _⟩ w
set_option maxRecDepth 20000 in
set_option maxHeartbeats 4000000 in
theorem x_X0_freePlace {G : pm_G} {d : Nat} {post : pm_PT} {h : pm_H} {l0 : Nat} {l1 : Int32} (w :
    Wp G (m_X0_freePlace, d + 1, 0, 0, post) (0, 0) 2 [.ref l0, .int l1, .int 0, .null, .null] [] h) :
    Wp G (m_X0_freePlace, d + 1, 0, 0, post) (0, 0) 0 [.ref l0, .int l1, .null, .null, .null] [] h := by
  refine w_iconst (v := 0) dX0_freePlace_0 rfl ?_
  refine v_istore_n (l' := [.ref l0, .int l1, .int 0, .null, .null]) dX0_freePlace_1 (Nat.le_of_ble_eq_true rfl) rfl ?_
  exact w
set_option maxRecDepth 20000 in
set_option maxHeartbeats 4000000 in
theorem x_X0_freePlace_2 {G : pm_G} {d : Nat} {post : pm_PT} {h : pm_H} {l0 : Nat} {l1 : Int32} {l2 : Int32} (w :
    if 4 ≤ l2 then (
      post (some (.int (-1))) h
    ) else (
      Wp G (m_X0_freePlace, d + 1, 0, 0, post) (0, 0) 12 [.ref l0, .int l1, .int l2, .int 1, .int 0] [] h
    )) :
    Wp G (m_X0_freePlace, d + 1, 0, 0, post) (0, 0) 2 [.ref l0, .int l1, .int l2, .null, .null] [] h := by
  refine w_iload_n dX0_freePlace_2 rfl ?_
  refine w_iconst (v := 4) dX0_freePlace_3 rfl ?_
  refine w_ic_ge (tgt := 73) dX0_freePlace_4 rfl (fun c => ?_) (fun c => ?_)
  · rw [if_pos c] at w
    refine w_iconst (v := (-1)) dX0_freePlace_73 rfl ?_
    exact w_ireturn dX0_freePlace_74 rfl rfl ⟨Nat.le_refl _, Nat.le_refl _⟩ w
  · rw [if_neg c] at w
    refine w_iconst (v := 1) dX0_freePlace_7 rfl ?_
    refine v_istore_n (l' := [.ref l0, .int l1, .int l2, .int 1, .null]) dX0_freePlace_8 (Nat.le_of_ble_eq_true rfl) rfl ?_
    refine w_iconst (v := 0) dX0_freePlace_9 rfl ?_
    refine v_istore (l' := [.ref l0, .int l1, .int l2, .int 1, .int 0]) dX0_freePlace_10 (Nat.le_of_ble_eq_true rfl) rfl ?_
    exact w
set_option maxRecDepth 20000 in
set_option maxHeartbeats 4000000 in
theorem x_X0_freePlace_12 {G : pm_G} {d : Nat} {post : pm_PT} {h : pm_H} {l0 : Nat} {l1 : Int32} {l2 : Int32} {l3 : Int32} {l4 : Int32} (w :
    if 20 ≤ l4 then (
      if l3 = 0 then (
        Wp G (m_X0_freePlace, d + 1, 0, 0, post) (0, 0) 2 [.ref l0, .int l1, .int (l2 + 1), .null, .null] [] h
      ) else (
        post (some (.int l2)) h
      )
    ) else (
      if l3 = 0 then (
        Wp G (m_X0_freePlace, d + 1, 0, 0, post) (0, 0) 12 [.ref l0, .int l1, .int l2, .int 0, .int (l4 + 1)] [] h
      ) else (
        (h.1[l0]? = some (0, 0)) ∧
        (h.1[gp h l0 14]? = some (0, 6)) ∧
        ci G d m_X6_at [.ref (gp h l0 14), .int l4] h fun r1 h2 =>
        if r1 = l1 then (
          (h2.1[l0]? = some (0, 0)) ∧
          (h2.1[gp h2 l0 15]? = some (0, 6)) ∧
          ci G d m_X6_at [.ref (gp h2 l0 15), .int l4] h2 fun r3 h4 =>
          if r3 = l2 then (
            Wp G (m_X0_freePlace, d + 1, 0, 0, post) (0, 0) 12 [.ref l0, .int l1, .int l2, .int 0, .int (l4 + 1)] [] h4
          ) else (
            Wp G (m_X0_freePlace, d + 1, 0, 0, post) (0, 0) 12 [.ref l0, .int l1, .int l2, .int 1, .int (l4 + 1)] [] h4
          )
        ) else (
          Wp G (m_X0_freePlace, d + 1, 0, 0, post) (0, 0) 12 [.ref l0, .int l1, .int l2, .int 1, .int (l4 + 1)] [] h2
        )
      )
    )) :
    Wp G (m_X0_freePlace, d + 1, 0, 0, post) (0, 0) 12 [.ref l0, .int l1, .int l2, .int l3, .int l4] [] h := by
  refine w_iload dX0_freePlace_12 rfl ?_
  refine w_bipush (v := 20) dX0_freePlace_14 rfl ?_
  refine w_ic_ge (tgt := 61) dX0_freePlace_16 rfl (fun c => ?_) (fun c => ?_)
  · rw [if_pos c] at w
    refine w_iload_n dX0_freePlace_61 rfl ?_
    refine w_if_eq (tgt := 67) dX0_freePlace_62 rfl (fun c => ?_) (fun c => ?_)
    · rw [if_pos c] at w
      refine v_iinc (l' := [.ref l0, .int l1, .int (l2 + 1), .int l3, .int l4]) (v := l2 + 1) dX0_freePlace_67 rfl rfl (Nat.le_of_ble_eq_true rfl) rfl ?_
      refine w_goto (tgt := 2) dX0_freePlace_70 rfl ?_
      exact w_drop (l' := [.ref l0, .int l1, .int (l2 + 1), .null, .null]) ⟨Or.inr rfl, Or.inr rfl, Or.inr rfl, Or.inl rfl, Or.inl rfl, trivial⟩ w
    · rw [if_neg c] at w
      refine w_iload_n dX0_freePlace_65 rfl ?_
      exact w_ireturn dX0_freePlace_66 rfl rfl ⟨Nat.le_refl _, Nat.le_refl _⟩ w
  · rw [if_neg c] at w
    refine w_iload_n dX0_freePlace_19 rfl ?_
    refine w_if_eq (tgt := 53) dX0_freePlace_20 rfl (fun c => ?_) (fun c => ?_)
    · rw [if_pos c] at w
      refine w_iconst (v := 0) dX0_freePlace_53 rfl ?_
      refine v_istore_n (l' := [.ref l0, .int l1, .int l2, .int 0, .int l4]) dX0_freePlace_54 (Nat.le_of_ble_eq_true rfl) rfl ?_
      refine v_iinc (l' := [.ref l0, .int l1, .int l2, .int 0, .int (l4 + 1)]) (v := l4 + 1) dX0_freePlace_55 rfl rfl (Nat.le_of_ble_eq_true rfl) rfl ?_
      refine w_goto (tgt := 12) dX0_freePlace_58 rfl ?_
      exact w
    · rw [if_neg c] at w
      refine w_aload_n dX0_freePlace_23 rfl ?_
      obtain ⟨e1, w⟩ := w
      refine w_getp dX0_freePlace_24 lk_RX0_56 e1 rfl ?_
      refine w_iload dX0_freePlace_27 rfl ?_
      obtain ⟨e2, w⟩ := w
      refine w_callV (As := [.int l4]) (st := []) dX0_freePlace_29 mt_X6_at g_797 g_724 g_725 rfl e2 rfl rfl (Nat.le_of_ble_eq_true rfl) (Nat.le_refl _) ⟨Nat.le_refl _, Nat.le_refl _⟩ w ?_
      rintro v h2 ⟨r1, rfl, w⟩
      refine w_iload_n dX0_freePlace_32 rfl ?_
      refine w_ic_ne (tgt := 49) dX0_freePlace_33 rfl (fun c => ?_) (fun c => ?_)
      · rw [if_neg c] at w
        refine w_iconst (v := 1) dX0_freePlace_49 rfl ?_
        refine w_goto (tgt := 54) dX0_freePlace_50 rfl ?_
        refine v_istore_n (l' := [.ref l0, .int l1, .int l2, .int 1, .int l4]) dX0_freePlace_54 (Nat.le_of_ble_eq_true rfl) rfl ?_
        refine v_iinc (l' := [.ref l0, .int l1, .int l2, .int 1, .int (l4 + 1)]) (v := l4 + 1) dX0_freePlace_55 rfl rfl (Nat.le_of_ble_eq_true rfl) rfl ?_
        refine w_goto (tgt := 12) dX0_freePlace_58 rfl ?_
        exact w
      · rw [if_pos c] at w
        refine w_aload_n dX0_freePlace_36 rfl ?_
        obtain ⟨e1, w⟩ := w
        refine w_getp dX0_freePlace_37 lk_RX0_59 e1 rfl ?_
        refine w_iload dX0_freePlace_40 rfl ?_
        obtain ⟨e2, w⟩ := w
        refine w_callV (As := [.int l4]) (st := []) dX0_freePlace_42 mt_X6_at g_797 g_724 g_725 rfl e2 rfl rfl (Nat.le_of_ble_eq_true rfl) (Nat.le_refl _) ⟨Nat.le_refl _, Nat.le_refl _⟩ w ?_
        rintro v h4 ⟨r3, rfl, w⟩
        refine w_iload_n dX0_freePlace_45 rfl ?_
        refine w_ic_eq (tgt := 53) dX0_freePlace_46 rfl (fun c => ?_) (fun c => ?_)
        · rw [if_pos c] at w
          refine w_iconst (v := 0) dX0_freePlace_53 rfl ?_
          refine v_istore_n (l' := [.ref l0, .int l1, .int l2, .int 0, .int l4]) dX0_freePlace_54 (Nat.le_of_ble_eq_true rfl) rfl ?_
          refine v_iinc (l' := [.ref l0, .int l1, .int l2, .int 0, .int (l4 + 1)]) (v := l4 + 1) dX0_freePlace_55 rfl rfl (Nat.le_of_ble_eq_true rfl) rfl ?_
          refine w_goto (tgt := 12) dX0_freePlace_58 rfl ?_
          exact w
        · rw [if_neg c] at w
          refine w_iconst (v := 1) dX0_freePlace_49 rfl ?_
          refine w_goto (tgt := 54) dX0_freePlace_50 rfl ?_
          refine v_istore_n (l' := [.ref l0, .int l1, .int l2, .int 1, .int l4]) dX0_freePlace_54 (Nat.le_of_ble_eq_true rfl) rfl ?_
          refine v_iinc (l' := [.ref l0, .int l1, .int l2, .int 1, .int (l4 + 1)]) (v := l4 + 1) dX0_freePlace_55 rfl rfl (Nat.le_of_ble_eq_true rfl) rfl ?_
          refine w_goto (tgt := 12) dX0_freePlace_58 rfl ?_
          exact w
set_option maxRecDepth 20000 in
set_option maxHeartbeats 4000000 in
theorem x_X0_slot {G : pm_G} {d : Nat} {post : pm_PT} {h : pm_H} {l0 : Int32} {l1 : Int32} (w :
    if l0 < 0 then (
      post (some (.int (-1))) h
    ) else (
      if l1 < 0 then (
        post (some (.int (-1))) h
      ) else (
        if l1 < 24 then (
          post (some (.int ((l0 * 24) + l1))) h
        ) else (
          post (some (.int (-1))) h
        )
      )
    )) :
    Wp G (m_X0_slot, d + 1, 0, 0, post) (0, 0) 0 [.int l0, .int l1] [] h := by
  refine w_iload_n dX0_slot_0 rfl ?_
  refine w_if_lt (tgt := 14) dX0_slot_1 rfl (fun c => ?_) (fun c => ?_)
  · rw [if_pos c] at w
    refine w_iconst (v := (-1)) dX0_slot_14 rfl ?_
    refine w_goto (tgt := 24) dX0_slot_15 rfl ?_
    exact w_ireturn dX0_slot_24 rfl rfl ⟨Nat.le_refl _, Nat.le_refl _⟩ w
  · rw [if_neg c] at w
    refine w_iload_n dX0_slot_4 rfl ?_
    refine w_if_lt (tgt := 14) dX0_slot_5 rfl (fun c => ?_) (fun c => ?_)
    · rw [if_pos c] at w
      refine w_iconst (v := (-1)) dX0_slot_14 rfl ?_
      refine w_goto (tgt := 24) dX0_slot_15 rfl ?_
      exact w_ireturn dX0_slot_24 rfl rfl ⟨Nat.le_refl _, Nat.le_refl _⟩ w
    · rw [if_neg c] at w
      refine w_iload_n dX0_slot_8 rfl ?_
      refine w_bipush (v := 24) dX0_slot_9 rfl ?_
      refine w_ic_lt (tgt := 18) dX0_slot_11 rfl (fun c => ?_) (fun c => ?_)
      · rw [if_pos c] at w
        refine w_iload_n dX0_slot_18 rfl ?_
        refine w_bipush (v := 24) dX0_slot_19 rfl ?_
        refine w_imul dX0_slot_21 ?_
        refine w_iload_n dX0_slot_22 rfl ?_
        refine w_iadd dX0_slot_23 ?_
        exact w_ireturn dX0_slot_24 rfl rfl ⟨Nat.le_refl _, Nat.le_refl _⟩ w
      · rw [if_neg c] at w
        refine w_iconst (v := (-1)) dX0_slot_14 rfl ?_
        refine w_goto (tgt := 24) dX0_slot_15 rfl ?_
        exact w_ireturn dX0_slot_24 rfl rfl ⟨Nat.le_refl _, Nat.le_refl _⟩ w
set_option maxRecDepth 20000 in
set_option maxHeartbeats 4000000 in
theorem x_X0_newNode {G : pm_G} {d : Nat} {post : pm_PT} {h : pm_H} {l0 : Nat} {l1 : Int32} {l2 : Int32} (w :
    Wp G (m_X0_newNode, d + 1, 0, 0, post) (0, 0) 2 [.ref l0, .int l1, .int l2, .int 0] [] h) :
    Wp G (m_X0_newNode, d + 1, 0, 0, post) (0, 0) 0 [.ref l0, .int l1, .int l2, .null] [] h := by
  refine w_iconst (v := 0) dX0_newNode_0 rfl ?_
  refine v_istore_n (l' := [.ref l0, .int l1, .int l2, .int 0]) dX0_newNode_1 (Nat.le_of_ble_eq_true rfl) rfl ?_
  exact w
set_option maxRecDepth 20000 in
set_option maxHeartbeats 4000000 in
theorem x_X0_newNode_2 {G : pm_G} {d : Nat} {post : pm_PT} {h : pm_H} {l0 : Nat} {l1 : Int32} {l2 : Int32} {l3 : Int32} (w :
    if 24 ≤ l3 then (
      post (some (.int (-1))) h
    ) else (
      (h.1[l0]? = some (0, 0)) ∧
      (h.1[gp h l0 1]? = some (0, 6)) ∧
      ci G d m_X6_at [.ref (gp h l0 1), .int l3] h fun r1 h2 =>
      if r1 = (-1) then (
        (h2.1[l0]? = some (0, 0)) ∧
        (h2.1[gp h2 l0 1]? = some (0, 6)) ∧
        cv G d m_X6_set [.ref (gp h2 l0 1), .int l3, .int l1] h2 fun h4 =>
        (h4.1[l0]? = some (0, 0)) ∧
        (h4.1[gp h4 l0 2]? = some (0, 6)) ∧
        cv G d m_X6_set [.ref (gp h4 l0 2), .int l3, .int l2] h4 fun h6 =>
        (h6.1[l0]? = some (0, 0)) ∧
        (h6.1[gp h6 l0 3]? = some (0, 6)) ∧
        cv G d m_X6_set [.ref (gp h6 l0 3), .int l3, .int (-1)] h6 fun h8 =>
        (h8.1[l0]? = some (0, 0)) ∧
        (h8.1[gp h8 l0 4]? = some (0, 6)) ∧
        cv G d m_X6_set [.ref (gp h8 l0 4), .int l3, .int (-1)] h8 fun h10 =>
        (h10.1[l0]? = some (0, 0)) ∧
        (h10.1[gp h10 l0 5]? = some (0, 6)) ∧
        cv G d m_X6_set [.ref (gp h10 l0 5), .int l3, .int (-1)] h10 fun h12 =>
        (h12.1[l0]? = some (0, 0)) ∧
        (h12.1[gp h12 l0 6]? = some (0, 6)) ∧
        cv G d m_X6_set [.ref (gp h12 l0 6), .int l3, .int 0] h12 fun h14 =>
        (h14.1[l0]? = some (0, 0)) ∧
        (h14.1[gp h14 l0 7]? = some (0, 6)) ∧
        cv G d m_X6_set [.ref (gp h14 l0 7), .int l3, .int (-1)] h14 fun h16 =>
        (h16.1[l0]? = some (0, 0)) ∧
        (h16.1[gp h16 l0 8]? = some (0, 6)) ∧
        cv G d m_X6_set [.ref (gp h16 l0 8), .int l3, .int (-1)] h16 fun h18 =>
        (h18.1[l0]? = some (0, 0)) ∧
        (h18.1[gp h18 l0 9]? = some (0, 6)) ∧
        cv G d m_X6_set [.ref (gp h18 l0 9), .int l3, .int (-1)] h18 fun h20 =>
        post (some (.int l3)) h20
      ) else (
        Wp G (m_X0_newNode, d + 1, 0, 0, post) (0, 0) 2 [.ref l0, .int l1, .int l2, .int (l3 + 1)] [] h2
      )
    )) :
    Wp G (m_X0_newNode, d + 1, 0, 0, post) (0, 0) 2 [.ref l0, .int l1, .int l2, .int l3] [] h := by
  refine w_iload_n dX0_newNode_2 rfl ?_
  refine w_bipush (v := 24) dX0_newNode_3 rfl ?_
  refine w_ic_ge (tgt := 109) dX0_newNode_5 rfl (fun c => ?_) (fun c => ?_)
  · rw [if_pos c] at w
    refine w_iconst (v := (-1)) dX0_newNode_109 rfl ?_
    exact w_ireturn dX0_newNode_110 rfl rfl ⟨Nat.le_refl _, Nat.le_refl _⟩ w
  · rw [if_neg c] at w
    refine w_aload_n dX0_newNode_8 rfl ?_
    obtain ⟨e1, w⟩ := w
    refine w_getp dX0_newNode_9 lk_RX0_16 e1 rfl ?_
    refine w_iload_n dX0_newNode_12 rfl ?_
    obtain ⟨e2, w⟩ := w
    refine w_callV (As := [.int l3]) (st := []) dX0_newNode_13 mt_X6_at g_797 g_724 g_725 rfl e2 rfl rfl (Nat.le_of_ble_eq_true rfl) (Nat.le_refl _) ⟨Nat.le_refl _, Nat.le_refl _⟩ w ?_
    rintro v h2 ⟨r1, rfl, w⟩
    refine w_iconst (v := (-1)) dX0_newNode_16 rfl ?_
    refine w_ic_ne (tgt := 103) dX0_newNode_17 rfl (fun c => ?_) (fun c => ?_)
    · rw [if_neg c] at w
      refine v_iinc (l' := [.ref l0, .int l1, .int l2, .int (l3 + 1)]) (v := l3 + 1) dX0_newNode_103 rfl rfl (Nat.le_of_ble_eq_true rfl) rfl ?_
      refine w_goto (tgt := 2) dX0_newNode_106 rfl ?_
      exact w
    · rw [if_pos c] at w
      refine w_aload_n dX0_newNode_20 rfl ?_
      obtain ⟨e1, w⟩ := w
      refine w_getp dX0_newNode_21 lk_RX0_16 e1 rfl ?_
      refine w_iload_n dX0_newNode_24 rfl ?_
      refine w_iload_n dX0_newNode_25 rfl ?_
      obtain ⟨e2, w⟩ := w
      refine w_callV (As := [.int l3, .int l1]) (st := []) dX0_newNode_26 mt_X6_set g_802 g_667 g_668 rfl e2 rfl rfl (Nat.le_of_ble_eq_true rfl) (Nat.le_refl _) ⟨Nat.le_refl _, Nat.le_refl _⟩ w ?_
      rintro v h4 ⟨rfl, w⟩
      refine w_aload_n dX0_newNode_29 rfl ?_
      obtain ⟨e1, w⟩ := w
      refine w_getp dX0_newNode_30 lk_RX0_20 e1 rfl ?_
      refine w_iload_n dX0_newNode_33 rfl ?_
      refine w_iload_n dX0_newNode_34 rfl ?_
      obtain ⟨e2, w⟩ := w
      refine w_callV (As := [.int l3, .int l2]) (st := []) dX0_newNode_35 mt_X6_set g_802 g_667 g_668 rfl e2 rfl rfl (Nat.le_of_ble_eq_true rfl) (Nat.le_refl _) ⟨Nat.le_refl _, Nat.le_refl _⟩ w ?_
      rintro v h6 ⟨rfl, w⟩
      refine w_aload_n dX0_newNode_38 rfl ?_
      obtain ⟨e1, w⟩ := w
      refine w_getp dX0_newNode_39 lk_RX0_23 e1 rfl ?_
      refine w_iload_n dX0_newNode_42 rfl ?_
      refine w_iconst (v := (-1)) dX0_newNode_43 rfl ?_
      obtain ⟨e2, w⟩ := w
      refine w_callV (As := [.int l3, .int (-1)]) (st := []) dX0_newNode_44 mt_X6_set g_802 g_667 g_668 rfl e2 rfl rfl (Nat.le_of_ble_eq_true rfl) (Nat.le_refl _) ⟨Nat.le_refl _, Nat.le_refl _⟩ w ?_
      rintro v h8 ⟨rfl, w⟩
      refine w_aload_n dX0_newNode_47 rfl ?_
      obtain ⟨e1, w⟩ := w
      refine w_getp dX0_newNode_48 lk_RX0_26 e1 rfl ?_
      refine w_iload_n dX0_newNode_51 rfl ?_
      refine w_iconst (v := (-1)) dX0_newNode_52 rfl ?_
      obtain ⟨e2, w⟩ := w
      refine w_callV (As := [.int l3, .int (-1)]) (st := []) dX0_newNode_53 mt_X6_set g_802 g_667 g_668 rfl e2 rfl rfl (Nat.le_of_ble_eq_true rfl) (Nat.le_refl _) ⟨Nat.le_refl _, Nat.le_refl _⟩ w ?_
      rintro v h10 ⟨rfl, w⟩
      refine w_aload_n dX0_newNode_56 rfl ?_
      obtain ⟨e1, w⟩ := w
      refine w_getp dX0_newNode_57 lk_RX0_29 e1 rfl ?_
      refine w_iload_n dX0_newNode_60 rfl ?_
      refine w_iconst (v := (-1)) dX0_newNode_61 rfl ?_
      obtain ⟨e2, w⟩ := w
      refine w_callV (As := [.int l3, .int (-1)]) (st := []) dX0_newNode_62 mt_X6_set g_802 g_667 g_668 rfl e2 rfl rfl (Nat.le_of_ble_eq_true rfl) (Nat.le_refl _) ⟨Nat.le_refl _, Nat.le_refl _⟩ w ?_
      rintro v h12 ⟨rfl, w⟩
      refine w_aload_n dX0_newNode_65 rfl ?_
      obtain ⟨e1, w⟩ := w
      refine w_getp dX0_newNode_66 lk_RX0_32 e1 rfl ?_
      refine w_iload_n dX0_newNode_69 rfl ?_
      refine w_iconst (v := 0) dX0_newNode_70 rfl ?_
      obtain ⟨e2, w⟩ := w
      refine w_callV (As := [.int l3, .int 0]) (st := []) dX0_newNode_71 mt_X6_set g_802 g_667 g_668 rfl e2 rfl rfl (Nat.le_of_ble_eq_true rfl) (Nat.le_refl _) ⟨Nat.le_refl _, Nat.le_refl _⟩ w ?_
      rintro v h14 ⟨rfl, w⟩
      refine w_aload_n dX0_newNode_74 rfl ?_
      obtain ⟨e1, w⟩ := w
      refine w_getp dX0_newNode_75 lk_RX0_35 e1 rfl ?_
      refine w_iload_n dX0_newNode_78 rfl ?_
      refine w_iconst (v := (-1)) dX0_newNode_79 rfl ?_
      obtain ⟨e2, w⟩ := w
      refine w_callV (As := [.int l3, .int (-1)]) (st := []) dX0_newNode_80 mt_X6_set g_802 g_667 g_668 rfl e2 rfl rfl (Nat.le_of_ble_eq_true rfl) (Nat.le_refl _) ⟨Nat.le_refl _, Nat.le_refl _⟩ w ?_
      rintro v h16 ⟨rfl, w⟩
      refine w_aload_n dX0_newNode_83 rfl ?_
      obtain ⟨e1, w⟩ := w
      refine w_getp dX0_newNode_84 lk_RX0_38 e1 rfl ?_
      refine w_iload_n dX0_newNode_87 rfl ?_
      refine w_iconst (v := (-1)) dX0_newNode_88 rfl ?_
      obtain ⟨e2, w⟩ := w
      refine w_callV (As := [.int l3, .int (-1)]) (st := []) dX0_newNode_89 mt_X6_set g_802 g_667 g_668 rfl e2 rfl rfl (Nat.le_of_ble_eq_true rfl) (Nat.le_refl _) ⟨Nat.le_refl _, Nat.le_refl _⟩ w ?_
      rintro v h18 ⟨rfl, w⟩
      refine w_aload_n dX0_newNode_92 rfl ?_
      obtain ⟨e1, w⟩ := w
      refine w_getp dX0_newNode_93 lk_RX0_41 e1 rfl ?_
      refine w_iload_n dX0_newNode_96 rfl ?_
      refine w_iconst (v := (-1)) dX0_newNode_97 rfl ?_
      obtain ⟨e2, w⟩ := w
      refine w_callV (As := [.int l3, .int (-1)]) (st := []) dX0_newNode_98 mt_X6_set g_802 g_667 g_668 rfl e2 rfl rfl (Nat.le_of_ble_eq_true rfl) (Nat.le_refl _) ⟨Nat.le_refl _, Nat.le_refl _⟩ w ?_
      rintro v h20 ⟨rfl, w⟩
      refine w_iload_n dX0_newNode_101 rfl ?_
      exact w_ireturn dX0_newNode_102 rfl rfl ⟨Nat.le_refl _, Nat.le_refl _⟩ w
set_option maxRecDepth 20000 in
set_option maxHeartbeats 4000000 in
theorem x_X0_join {G : pm_G} {d : Nat} {post : pm_PT} {h : pm_H} {l0 : Nat} {l1 : Int32} {l2 : Int32} (w :
    (h.1[l0]? = some (0, 0)) ∧
    ci G d m_X0_itemsIn [.ref l0, .int l2] h fun r1 h2 =>
    (h2.1[l0]? = some (0, 0)) ∧
    (h2.1[gp h2 l0 1]? = some (0, 6)) ∧
    ci G d m_X6_at [.ref (gp h2 l0 1), .int l1] h2 fun r3 h4 =>
    Wp G (m_X0_join, d + 1, 0, 0, post) (0, 0) 19 [.ref l0, .null, .int l2, .int l1, .int r1, .int r3, .null, .null, .null] [] h4) :
    Wp G (m_X0_join, d + 1, 0, 0, post) (0, 0) 0 [.ref l0, .int l1, .int l2, .null, .null, .null, .null, .null, .null] [] h := by
  refine w_iload_n dX0_join_0 rfl ?_
  refine v_istore_n (l' := [.ref l0, .int l1, .int l2, .int l1, .null, .null, .null, .null, .null]) dX0_join_1 (Nat.le_of_ble_eq_true rfl) rfl ?_
  refine w_aload_n dX0_join_2 rfl ?_
  refine w_iload_n dX0_join_3 rfl ?_
  obtain ⟨e1, w⟩ := w
  refine w_callV (As := [.int l2]) (st := []) dX0_join_4 mt_X0_itemsIn g_811 g_812 g_813 rfl e1 rfl rfl (Nat.le_of_ble_eq_true rfl) (Nat.le_refl _) ⟨Nat.le_refl _, Nat.le_refl _⟩ w ?_
  rintro v h2 ⟨r1, rfl, w⟩
  refine v_istore (l' := [.ref l0, .int l1, .int l2, .int l1, .int r1, .null, .null, .null, .null]) dX0_join_7 (Nat.le_of_ble_eq_true rfl) rfl ?_
  refine w_aload_n dX0_join_9 rfl ?_
  obtain ⟨e1, w⟩ := w
  refine w_getp dX0_join_10 lk_RX0_16 e1 rfl ?_
  refine w_iload_n dX0_join_13 rfl ?_
  obtain ⟨e2, w⟩ := w
  refine w_callV (As := [.int l1]) (st := []) dX0_join_14 mt_X6_at g_797 g_724 g_725 rfl e2 rfl rfl (Nat.le_of_ble_eq_true rfl) (Nat.le_refl _) ⟨Nat.le_refl _, Nat.le_refl _⟩ w ?_
  rintro v h4 ⟨r3, rfl, w⟩
  refine v_istore (l' := [.ref l0, .int l1, .int l2, .int l1, .int r1, .int r3, .null, .null, .null]) dX0_join_17 (Nat.le_of_ble_eq_true rfl) rfl ?_
  exact w_drop (l' := [.ref l0, .null, .int l2, .int l1, .int r1, .int r3, .null, .null, .null]) ⟨Or.inr rfl, Or.inl rfl, Or.inr rfl, Or.inr rfl, Or.inr rfl, Or.inr rfl, Or.inl rfl, Or.inl rfl, Or.inl rfl, trivial⟩ w
set_option maxRecDepth 20000 in
set_option maxHeartbeats 4000000 in
theorem x_X0_join_19 {G : pm_G} {d : Nat} {post : pm_PT} {h : pm_H} {l0 : Nat} {l2 : Int32} {l3 : Int32} {l4 : Int32} {l5 : Int32} (w :
    if 24 ≤ l5 then (
      post none h
    ) else (
      (h.1[l0]? = some (0, 0)) ∧
      ci G d m_X0_slot [.int l2, .int l5] h fun r1 h2 =>
      (h2.1[gp h l0 10]? = some (0, 6)) ∧
      ci G d m_X6_at [.ref (gp h l0 10), .int r1] h2 fun r3 h4 =>
      if r3 = (-1) then (
        (h4.1[l0]? = some (0, 0)) ∧
        ci G d m_X0_slot [.int l2, .int l5] h4 fun r5 h6 =>
        (h6.1[gp h4 l0 10]? = some (0, 6)) ∧
        cv G d m_X6_set [.ref (gp h4 l0 10), .int r5, .int l3] h6 fun h8 =>
        post none h8
      ) else (
        (h4.1[l0]? = some (0, 0)) ∧
        ci G d m_X0_slot [.int l2, .int l5] h4 fun r9 h10 =>
        (h10.1[gp h4 l0 10]? = some (0, 6)) ∧
        cv G d m_X6_set [.ref (gp h4 l0 10), .int r9, .int (-1)] h10 fun h12 =>
        (h12.1[l0]? = some (0, 0)) ∧
        (h12.1[gp h12 l0 2]? = some (0, 6)) ∧
        ci G d m_X6_at [.ref (gp h12 l0 2), .int r3] h12 fun r13 h14 =>
        (h14.1[l0]? = some (0, 0)) ∧
        (h14.1[gp h14 l0 2]? = some (0, 6)) ∧
        ci G d m_X6_at [.ref (gp h14 l0 2), .int l3] h14 fun r15 h16 =>
        ci G d m_J9_max_7cf53 [.int r13, .int r15] h16 fun r17 h18 =>
        (h18.1[l0]? = some (0, 0)) ∧
        (h18.1[gp h18 l0 0]? = some (0, 4)) ∧
        (h18.1[gp h18 (gp h18 l0 0) 7]? = some (0, 1)) ∧
        ci G d m_X1_targetFor [.ref (gp h18 (gp h18 l0 0) 7), .int (l5 + 1), .int r17, .int (gi h18 (gp h18 l0 0) 8), .int l4] h18 fun r19 h20 =>
        (h20.1[l0]? = some (0, 0)) ∧
        ci G d m_X0_newNode [.ref l0, .int (l5 + 1), .int r19] h20 fun r21 h22 =>
        (h22.1[l0]? = some (0, 0)) ∧
        (h22.1[gp h22 l0 7]? = some (0, 6)) ∧
        cv G d m_X6_set [.ref (gp h22 l0 7), .int r21, .int r3] h22 fun h24 =>
        (h24.1[l0]? = some (0, 0)) ∧
        (h24.1[gp h24 l0 8]? = some (0, 6)) ∧
        cv G d m_X6_set [.ref (gp h24 l0 8), .int r21, .int l3] h24 fun h26 =>
        (h26.1[l0]? = some (0, 0)) ∧
        (h26.1[gp h26 l0 9]? = some (0, 6)) ∧
        cv G d m_X6_set [.ref (gp h26 l0 9), .int r3, .int r21] h26 fun h28 =>
        (h28.1[l0]? = some (0, 0)) ∧
        (h28.1[gp h28 l0 9]? = some (0, 6)) ∧
        cv G d m_X6_set [.ref (gp h28 l0 9), .int l3, .int r21] h28 fun h30 =>
        (h30.1[l0]? = some (0, 0)) ∧
        cv G d m_X0_sift [.ref l0, .int r21] h30 fun h32 =>
        Wp G (m_X0_join, d + 1, 0, 0, post) (0, 0) 19 [.ref l0, .null, .int l2, .int r21, .int l4, .int (l5 + 1), .null, .null, .null] [] h32
      )
    )) :
    Wp G (m_X0_join, d + 1, 0, 0, post) (0, 0) 19 [.ref l0, .null, .int l2, .int l3, .int l4, .int l5, .null, .null, .null] [] h := by
  refine w_iload dX0_join_19 rfl ?_
  refine w_bipush (v := 24) dX0_join_21 rfl ?_
  refine w_ic_ge (tgt := 190) dX0_join_23 rfl (fun c => ?_) (fun c => ?_)
  · rw [if_pos c] at w
    exact w_return dX0_join_190 rfl ⟨Nat.le_refl _, Nat.le_refl _⟩ w
  · rw [if_neg c] at w
    refine w_aload_n dX0_join_26 rfl ?_
    obtain ⟨e1, w⟩ := w
    refine w_getp dX0_join_27 lk_RX0_44 e1 rfl ?_
    refine w_iload_n dX0_join_30 rfl ?_
    refine w_iload dX0_join_31 rfl ?_
    refine w_callS (As := [.int l2, .int l5]) (st := [.ref (gp h l0 10)]) dX0_join_33 mt_X0_slot g_815 g_816 rfl rfl (Nat.le_of_ble_eq_true rfl) (Nat.le_refl _) ⟨Nat.le_refl _, Nat.le_refl _⟩ w ?_
    rintro v h2 ⟨r1, rfl, w⟩
    obtain ⟨e1, w⟩ := w
    refine w_callV (As := [.int r1]) (st := []) dX0_join_36 mt_X6_at g_797 g_724 g_725 rfl e1 rfl rfl (Nat.le_of_ble_eq_true rfl) (Nat.le_refl _) ⟨Nat.le_refl _, Nat.le_refl _⟩ w ?_
    rintro v h4 ⟨r3, rfl, w⟩
    refine v_istore (l' := [.ref l0, .null, .int l2, .int l3, .int l4, .int l5, .int r3, .null, .null]) dX0_join_39 (Nat.le_of_ble_eq_true rfl) rfl ?_
    refine w_iload dX0_join_41 rfl ?_
    refine w_iconst (v := (-1)) dX0_join_43 rfl ?_
    refine w_ic_ne (tgt := 62) dX0_join_44 rfl (fun c => ?_) (fun c => ?_)
    · rw [if_neg c] at w
      refine w_aload_n dX0_join_62 rfl ?_
      obtain ⟨e1, w⟩ := w
      refine w_getp dX0_join_63 lk_RX0_44 e1 rfl ?_
      refine w_iload_n dX0_join_66 rfl ?_
      refine w_iload dX0_join_67 rfl ?_
      refine w_callS (As := [.int l2, .int l5]) (st := [.ref (gp h4 l0 10)]) dX0_join_69 mt_X0_slot g_815 g_816 rfl rfl (Nat.le_of_ble_eq_true rfl) (Nat.le_refl _) ⟨Nat.le_refl _, Nat.le_refl _⟩ w ?_
      rintro v h10 ⟨r9, rfl, w⟩
      refine w_iconst (v := (-1)) dX0_join_72 rfl ?_
      obtain ⟨e1, w⟩ := w
      refine w_callV (As := [.int r9, .int (-1)]) (st := []) dX0_join_73 mt_X6_set g_802 g_667 g_668 rfl e1 rfl rfl (Nat.le_of_ble_eq_true rfl) (Nat.le_refl _) ⟨Nat.le_refl _, Nat.le_refl _⟩ w ?_
      rintro v h12 ⟨rfl, w⟩
      refine w_aload_n dX0_join_76 rfl ?_
      obtain ⟨e1, w⟩ := w
      refine w_getp dX0_join_77 lk_RX0_20 e1 rfl ?_
      refine w_iload dX0_join_80 rfl ?_
      obtain ⟨e2, w⟩ := w
      refine w_callV (As := [.int r3]) (st := []) dX0_join_82 mt_X6_at g_797 g_724 g_725 rfl e2 rfl rfl (Nat.le_of_ble_eq_true rfl) (Nat.le_refl _) ⟨Nat.le_refl _, Nat.le_refl _⟩ w ?_
      rintro v h14 ⟨r13, rfl, w⟩
      refine w_aload_n dX0_join_85 rfl ?_
      obtain ⟨e1, w⟩ := w
      refine w_getp dX0_join_86 lk_RX0_20 e1 rfl ?_
      refine w_iload_n dX0_join_89 rfl ?_
      obtain ⟨e2, w⟩ := w
      refine w_callV (As := [.int l3]) (st := [.int r13]) dX0_join_90 mt_X6_at g_797 g_724 g_725 rfl e2 rfl rfl (Nat.le_of_ble_eq_true rfl) (Nat.le_refl _) ⟨Nat.le_refl _, Nat.le_refl _⟩ w ?_
      rintro v h16 ⟨r15, rfl, w⟩
      refine w_callS (As := [.int r13, .int r15]) (st := []) dX0_join_93 mt_J9_max_7cf53 g_818 g_819 rfl rfl (Nat.le_of_ble_eq_true rfl) (Nat.le_refl _) ⟨Nat.le_refl _, Nat.le_refl _⟩ w ?_
      rintro v h18 ⟨r17, rfl, w⟩
      refine v_istore (l' := [.ref l0, .null, .int l2, .int l3, .int l4, .int l5, .int r3, .int r17, .null]) dX0_join_96 (Nat.le_of_ble_eq_true rfl) rfl ?_
      refine w_aload_n dX0_join_98 rfl ?_
      refine w_iload dX0_join_99 rfl ?_
      refine w_iconst (v := 1) dX0_join_101 rfl ?_
      refine w_iadd dX0_join_102 ?_
      refine w_aload_n dX0_join_103 rfl ?_
      obtain ⟨e1, w⟩ := w
      refine w_getp dX0_join_104 lk_RX0_62 e1 rfl ?_
      obtain ⟨e2, w⟩ := w
      refine w_getp dX0_join_107 lk_RX0_146 e2 rfl ?_
      refine w_iload dX0_join_110 rfl ?_
      refine w_iconst (v := 1) dX0_join_112 rfl ?_
      refine w_iadd dX0_join_113 ?_
      refine w_iload dX0_join_114 rfl ?_
      refine w_aload_n dX0_join_116 rfl ?_
      refine w_getp dX0_join_117 lk_RX0_62 e1 rfl ?_
      refine w_geti dX0_join_120 lk_RX0_150 e2 rfl ?_
      refine w_iload dX0_join_123 rfl ?_
      obtain ⟨e3, w⟩ := w
      refine w_callV (As := [.int (l5 + 1), .int r17, .int (gi h18 (gp h18 l0 0) 8), .int l4]) (st := [.int (l5 + 1), .ref l0]) dX0_join_125 mt_X1_targetFor g_821 g_822 g_823 rfl e3 rfl rfl (Nat.le_of_ble_eq_true rfl) (Nat.le_refl _) ⟨Nat.le_refl _, Nat.le_refl _⟩ w ?_
      rintro v h20 ⟨r19, rfl, w⟩
      obtain ⟨e1, w⟩ := w
      refine w_callV (As := [.int (l5 + 1), .int r19]) (st := []) dX0_join_128 mt_X0_newNode g_803 g_805 g_25 rfl e1 rfl rfl (Nat.le_of_ble_eq_true rfl) (Nat.le_refl _) ⟨Nat.le_refl _, Nat.le_refl _⟩ w ?_
      rintro v h22 ⟨r21, rfl, w⟩
      refine v_istore (l' := [.ref l0, .null, .int l2, .int l3, .int l4, .int l5, .int r3, .int r17, .int r21]) dX0_join_131 (Nat.le_of_ble_eq_true rfl) rfl ?_
      refine w_aload_n dX0_join_133 rfl ?_
      obtain ⟨e1, w⟩ := w
      refine w_getp dX0_join_134 lk_RX0_35 e1 rfl ?_
      refine w_iload dX0_join_137 rfl ?_
      refine w_iload dX0_join_139 rfl ?_
      obtain ⟨e2, w⟩ := w
      refine w_callV (As := [.int r21, .int r3]) (st := []) dX0_join_141 mt_X6_set g_802 g_667 g_668 rfl e2 rfl rfl (Nat.le_of_ble_eq_true rfl) (Nat.le_refl _) ⟨Nat.le_refl _, Nat.le_refl _⟩ w ?_
      rintro v h24 ⟨rfl, w⟩
      refine w_aload_n dX0_join_144 rfl ?_
      obtain ⟨e1, w⟩ := w
      refine w_getp dX0_join_145 lk_RX0_38 e1 rfl ?_
      refine w_iload dX0_join_148 rfl ?_
      refine w_iload_n dX0_join_150 rfl ?_
      obtain ⟨e2, w⟩ := w
      refine w_callV (As := [.int r21, .int l3]) (st := []) dX0_join_151 mt_X6_set g_802 g_667 g_668 rfl e2 rfl rfl (Nat.le_of_ble_eq_true rfl) (Nat.le_refl _) ⟨Nat.le_refl _, Nat.le_refl _⟩ w ?_
      rintro v h26 ⟨rfl, w⟩
      refine w_aload_n dX0_join_154 rfl ?_
      obtain ⟨e1, w⟩ := w
      refine w_getp dX0_join_155 lk_RX0_41 e1 rfl ?_
      refine w_iload dX0_join_158 rfl ?_
      refine w_iload dX0_join_160 rfl ?_
      obtain ⟨e2, w⟩ := w
      refine w_callV (As := [.int r3, .int r21]) (st := []) dX0_join_162 mt_X6_set g_802 g_667 g_668 rfl e2 rfl rfl (Nat.le_of_ble_eq_true rfl) (Nat.le_refl _) ⟨Nat.le_refl _, Nat.le_refl _⟩ w ?_
      rintro v h28 ⟨rfl, w⟩
      refine w_aload_n dX0_join_165 rfl ?_
      obtain ⟨e1, w⟩ := w
      refine w_getp dX0_join_166 lk_RX0_41 e1 rfl ?_
      refine w_iload_n dX0_join_169 rfl ?_
      refine w_iload dX0_join_170 rfl ?_
      obtain ⟨e2, w⟩ := w
      refine w_callV (As := [.int l3, .int r21]) (st := []) dX0_join_172 mt_X6_set g_802 g_667 g_668 rfl e2 rfl rfl (Nat.le_of_ble_eq_true rfl) (Nat.le_refl _) ⟨Nat.le_refl _, Nat.le_refl _⟩ w ?_
      rintro v h30 ⟨rfl, w⟩
      refine w_aload_n dX0_join_175 rfl ?_
      refine w_iload dX0_join_176 rfl ?_
      obtain ⟨e1, w⟩ := w
      refine w_callV (As := [.int r21]) (st := []) dX0_join_178 mt_X0_sift g_834 g_836 g_28 rfl e1 rfl rfl (Nat.le_of_ble_eq_true rfl) (Nat.le_refl _) ⟨Nat.le_refl _, Nat.le_refl _⟩ w ?_
      rintro v h32 ⟨rfl, w⟩
      refine w_iload dX0_join_181 rfl ?_
      refine v_istore_n (l' := [.ref l0, .null, .int l2, .int r21, .int l4, .int l5, .int r3, .int r17, .int r21]) dX0_join_183 (Nat.le_of_ble_eq_true rfl) rfl ?_
      refine v_iinc (l' := [.ref l0, .null, .int l2, .int r21, .int l4, .int (l5 + 1), .int r3, .int r17, .int r21]) (v := l5 + 1) dX0_join_184 rfl rfl (Nat.le_of_ble_eq_true rfl) rfl ?_
      refine w_goto (tgt := 19) dX0_join_187 rfl ?_
      exact w_drop (l' := [.ref l0, .null, .int l2, .int r21, .int l4, .int (l5 + 1), .null, .null, .null]) ⟨Or.inr rfl, Or.inl rfl, Or.inr rfl, Or.inr rfl, Or.inr rfl, Or.inr rfl, Or.inl rfl, Or.inl rfl, Or.inl rfl, trivial⟩ w
    · rw [if_pos c] at w
      refine w_aload_n dX0_join_47 rfl ?_
      obtain ⟨e1, w⟩ := w
      refine w_getp dX0_join_48 lk_RX0_44 e1 rfl ?_
      refine w_iload_n dX0_join_51 rfl ?_
      refine w_iload dX0_join_52 rfl ?_
      refine w_callS (As := [.int l2, .int l5]) (st := [.ref (gp h4 l0 10)]) dX0_join_54 mt_X0_slot g_815 g_816 rfl rfl (Nat.le_of_ble_eq_true rfl) (Nat.le_refl _) ⟨Nat.le_refl _, Nat.le_refl _⟩ w ?_
      rintro v h6 ⟨r5, rfl, w⟩
      refine w_iload_n dX0_join_57 rfl ?_
      obtain ⟨e1, w⟩ := w
      refine w_callV (As := [.int r5, .int l3]) (st := []) dX0_join_58 mt_X6_set g_802 g_667 g_668 rfl e1 rfl rfl (Nat.le_of_ble_eq_true rfl) (Nat.le_refl _) ⟨Nat.le_refl _, Nat.le_refl _⟩ w ?_
      rintro v h8 ⟨rfl, w⟩
      exact w_return dX0_join_61 rfl ⟨Nat.le_refl _, Nat.le_refl _⟩ w
set_option maxRecDepth 20000 in
set_option maxHeartbeats 4000000 in
theorem x_X0_sift {G : pm_G} {d : Nat} {post : pm_PT} {h : pm_H} {l0 : Nat} {l1 : Int32} (w :
    Wp G (m_X0_sift, d + 1, 0, 0, post) (0, 0) 4 [.ref l0, .int l1, .int l1, .int 0, .null] [] h) :
    Wp G (m_X0_sift, d + 1, 0, 0, post) (0, 0) 0 [.ref l0, .int l1, .null, .null, .null] [] h := by
  refine w_iload_n dX0_sift_0 rfl ?_
  refine v_istore_n (l' := [.ref l0, .int l1, .int l1, .null, .null]) dX0_sift_1 (Nat.le_of_ble_eq_true rfl) rfl ?_
  refine w_iconst (v := 0) dX0_sift_2 rfl ?_
  refine v_istore_n (l' := [.ref l0, .int l1, .int l1, .int 0, .null]) dX0_sift_3 (Nat.le_of_ble_eq_true rfl) rfl ?_
  exact w
set_option maxRecDepth 20000 in
set_option maxHeartbeats 4000000 in
theorem x_X0_sift_4 {G : pm_G} {d : Nat} {post : pm_PT} {h : pm_H} {l0 : Nat} {l1 : Int32} {l2 : Int32} {l3 : Int32} (w :
    if 1000000 ≤ l3 then (
      post none h
    ) else (
      if l2 = (-1) then (
        post none h
      ) else (
        (h.1[l0]? = some (0, 0)) ∧
        (h.1[gp h l0 6]? = some (0, 6)) ∧
        ci G d m_X6_at [.ref (gp h l0 6), .int l2] h fun r1 h2 =>
        (h2.1[l0]? = some (0, 0)) ∧
        (h2.1[gp h2 l0 2]? = some (0, 6)) ∧
        ci G d m_X6_at [.ref (gp h2 l0 2), .int l2] h2 fun r3 h4 =>
        if r3 ≤ r1 then (
          if l2 = l1 then (
            Wp G (m_X0_sift, d + 1, 0, 0, post) (0, 0) 4 [.ref l0, .int l1, .int (-1), .int (l3 + 1), .null] [] h4
          ) else (
            (h4.1[l0]? = some (0, 0)) ∧
            (h4.1[gp h4 l0 9]? = some (0, 6)) ∧
            ci G d m_X6_at [.ref (gp h4 l0 9), .int l2] h4 fun r5 h6 =>
            Wp G (m_X0_sift, d + 1, 0, 0, post) (0, 0) 4 [.ref l0, .int l1, .int r5, .int (l3 + 1), .null] [] h6
          )
        ) else (
          (h4.1[l0]? = some (0, 0)) ∧
          ci G d m_X0_isLeaf [.ref l0, .int l2] h4 fun r7 h8 =>
          if r7 = 0 then (
            (h8.1[l0]? = some (0, 0)) ∧
            ci G d m_X0_lesserChild [.ref l0, .int l2] h8 fun r9 h10 =>
            (h10.1[l0]? = some (0, 0)) ∧
            cv G d m_X0_drawUp [.ref l0, .int r9, .int l2] h10 fun h12 =>
            (h12.1[l0]? = some (0, 0)) ∧
            ci G d m_X0_isLeaf [.ref l0, .int r9] h12 fun r13 h14 =>
            if r13 = 0 then (
              Wp G (m_X0_sift, d + 1, 0, 0, post) (0, 0) 4 [.ref l0, .int l1, .int r9, .int (l3 + 1), .null] [] h14
            ) else (
              (h14.1[l0]? = some (0, 0)) ∧
              (h14.1[gp h14 l0 1]? = some (0, 6)) ∧
              cv G d m_X6_set [.ref (gp h14 l0 1), .int r9, .int (-1)] h14 fun h16 =>
              (h16.1[l0]? = some (0, 0)) ∧
              (h16.1[gp h16 l0 7]? = some (0, 6)) ∧
              cv G d m_X6_set [.ref (gp h16 l0 7), .int l2, .int (-1)] h16 fun h18 =>
              Wp G (m_X0_sift, d + 1, 0, 0, post) (0, 0) 4 [.ref l0, .int l1, .int l2, .int (l3 + 1), .null] [] h18
            )
          ) else (
            if l2 = l1 then (
              Wp G (m_X0_sift, d + 1, 0, 0, post) (0, 0) 4 [.ref l0, .int l1, .int (-1), .int (l3 + 1), .null] [] h8
            ) else (
              (h8.1[l0]? = some (0, 0)) ∧
              (h8.1[gp h8 l0 9]? = some (0, 6)) ∧
              ci G d m_X6_at [.ref (gp h8 l0 9), .int l2] h8 fun r19 h20 =>
              Wp G (m_X0_sift, d + 1, 0, 0, post) (0, 0) 4 [.ref l0, .int l1, .int r19, .int (l3 + 1), .null] [] h20
            )
          )
        )
      )
    )) :
    Wp G (m_X0_sift, d + 1, 0, 0, post) (0, 0) 4 [.ref l0, .int l1, .int l2, .int l3, .null] [] h := by
  refine w_iload_n dX0_sift_4 rfl ?_
  refine w_ldc_i (v := 1000000) dX0_sift_5 g_838 ?_
  refine w_ic_ge (tgt := 117) dX0_sift_7 rfl (fun c => ?_) (fun c => ?_)
  · rw [if_pos c] at w
    exact w_return dX0_sift_117 rfl ⟨Nat.le_refl _, Nat.le_refl _⟩ w
  · rw [if_neg c] at w
    refine w_iload_n dX0_sift_10 rfl ?_
    refine w_iconst (v := (-1)) dX0_sift_11 rfl ?_
    refine w_ic_eq (tgt := 117) dX0_sift_12 rfl (fun c => ?_) (fun c => ?_)
    · rw [if_pos c] at w
      exact w_return dX0_sift_117 rfl ⟨Nat.le_refl _, Nat.le_refl _⟩ w
    · rw [if_neg c] at w
      refine w_aload_n dX0_sift_15 rfl ?_
      obtain ⟨e1, w⟩ := w
      refine w_getp dX0_sift_16 lk_RX0_32 e1 rfl ?_
      refine w_iload_n dX0_sift_19 rfl ?_
      obtain ⟨e2, w⟩ := w
      refine w_callV (As := [.int l2]) (st := []) dX0_sift_20 mt_X6_at g_797 g_724 g_725 rfl e2 rfl rfl (Nat.le_of_ble_eq_true rfl) (Nat.le_refl _) ⟨Nat.le_refl _, Nat.le_refl _⟩ w ?_
      rintro v h2 ⟨r1, rfl, w⟩
      refine w_aload_n dX0_sift_23 rfl ?_
      obtain ⟨e1, w⟩ := w
      refine w_getp dX0_sift_24 lk_RX0_20 e1 rfl ?_
      refine w_iload_n dX0_sift_27 rfl ?_
      obtain ⟨e2, w⟩ := w
      refine w_callV (As := [.int l2]) (st := [.int r1]) dX0_sift_28 mt_X6_at g_797 g_724 g_725 rfl e2 rfl rfl (Nat.le_of_ble_eq_true rfl) (Nat.le_refl _) ⟨Nat.le_refl _, Nat.le_refl _⟩ w ?_
      rintro v h4 ⟨r3, rfl, w⟩
      refine w_ic_ge (tgt := 42) dX0_sift_31 rfl (fun c => ?_) (fun c => ?_)
      · rw [if_pos c] at w
        refine w_iload_n dX0_sift_42 rfl ?_
        refine w_iload_n dX0_sift_43 rfl ?_
        refine w_ic_ne (tgt := 51) dX0_sift_44 rfl (fun c => ?_) (fun c => ?_)
        · rw [if_neg c] at w
          refine w_aload_n dX0_sift_51 rfl ?_
          obtain ⟨e1, w⟩ := w
          refine w_getp dX0_sift_52 lk_RX0_41 e1 rfl ?_
          refine w_iload_n dX0_sift_55 rfl ?_
          obtain ⟨e2, w⟩ := w
          refine w_callV (As := [.int l2]) (st := []) dX0_sift_56 mt_X6_at g_797 g_724 g_725 rfl e2 rfl rfl (Nat.le_of_ble_eq_true rfl) (Nat.le_refl _) ⟨Nat.le_refl _, Nat.le_refl _⟩ w ?_
          rintro v h6 ⟨r5, rfl, w⟩
          refine v_istore_n (l' := [.ref l0, .int l1, .int r5, .int l3, .null]) dX0_sift_59 (Nat.le_of_ble_eq_true rfl) rfl ?_
          refine w_goto (tgt := 111) dX0_sift_60 rfl ?_
          refine v_iinc (l' := [.ref l0, .int l1, .int r5, .int (l3 + 1), .null]) (v := l3 + 1) dX0_sift_111 rfl rfl (Nat.le_of_ble_eq_true rfl) rfl ?_
          refine w_goto (tgt := 4) dX0_sift_114 rfl ?_
          exact w
        · rw [if_pos c] at w
          refine w_iconst (v := (-1)) dX0_sift_47 rfl ?_
          refine w_goto (tgt := 59) dX0_sift_48 rfl ?_
          refine v_istore_n (l' := [.ref l0, .int l1, .int (-1), .int l3, .null]) dX0_sift_59 (Nat.le_of_ble_eq_true rfl) rfl ?_
          refine w_goto (tgt := 111) dX0_sift_60 rfl ?_
          refine v_iinc (l' := [.ref l0, .int l1, .int (-1), .int (l3 + 1), .null]) (v := l3 + 1) dX0_sift_111 rfl rfl (Nat.le_of_ble_eq_true rfl) rfl ?_
          refine w_goto (tgt := 4) dX0_sift_114 rfl ?_
          exact w
      · rw [if_neg c] at w
        refine w_aload_n dX0_sift_34 rfl ?_
        refine w_iload_n dX0_sift_35 rfl ?_
        obtain ⟨e1, w⟩ := w
        refine w_callV (As := [.int l2]) (st := []) dX0_sift_36 mt_X0_isLeaf g_839 g_841 g_29 rfl e1 rfl rfl (Nat.le_of_ble_eq_true rfl) (Nat.le_refl _) ⟨Nat.le_refl _, Nat.le_refl _⟩ w ?_
        rintro v h8 ⟨r7, rfl, w⟩
        refine w_if_eq (tgt := 63) dX0_sift_39 rfl (fun c => ?_) (fun c => ?_)
        · rw [if_pos c] at w
          refine w_aload_n dX0_sift_63 rfl ?_
          refine w_iload_n dX0_sift_64 rfl ?_
          obtain ⟨e1, w⟩ := w
          refine w_callV (As := [.int l2]) (st := []) dX0_sift_65 mt_X0_lesserChild g_843 g_845 g_30 rfl e1 rfl rfl (Nat.le_of_ble_eq_true rfl) (Nat.le_refl _) ⟨Nat.le_refl _, Nat.le_refl _⟩ w ?_
          rintro v h10 ⟨r9, rfl, w⟩
          refine v_istore (l' := [.ref l0, .int l1, .int l2, .int l3, .int r9]) dX0_sift_68 (Nat.le_of_ble_eq_true rfl) rfl ?_
          refine w_aload_n dX0_sift_70 rfl ?_
          refine w_iload dX0_sift_71 rfl ?_
          refine w_iload_n dX0_sift_73 rfl ?_
          obtain ⟨e1, w⟩ := w
          refine w_callV (As := [.int r9, .int l2]) (st := []) dX0_sift_74 mt_X0_drawUp g_848 g_850 g_31 rfl e1 rfl rfl (Nat.le_of_ble_eq_true rfl) (Nat.le_refl _) ⟨Nat.le_refl _, Nat.le_refl _⟩ w ?_
          rintro v h12 ⟨rfl, w⟩
          refine w_aload_n dX0_sift_77 rfl ?_
          refine w_iload dX0_sift_78 rfl ?_
          obtain ⟨e1, w⟩ := w
          refine w_callV (As := [.int r9]) (st := []) dX0_sift_80 mt_X0_isLeaf g_839 g_841 g_29 rfl e1 rfl rfl (Nat.le_of_ble_eq_true rfl) (Nat.le_refl _) ⟨Nat.le_refl _, Nat.le_refl _⟩ w ?_
          rintro v h14 ⟨r13, rfl, w⟩
          refine w_if_eq (tgt := 108) dX0_sift_83 rfl (fun c => ?_) (fun c => ?_)
          · rw [if_pos c] at w
            refine w_iload dX0_sift_108 rfl ?_
            refine v_istore_n (l' := [.ref l0, .int l1, .int r9, .int l3, .int r9]) dX0_sift_110 (Nat.le_of_ble_eq_true rfl) rfl ?_
            refine v_iinc (l' := [.ref l0, .int l1, .int r9, .int (l3 + 1), .int r9]) (v := l3 + 1) dX0_sift_111 rfl rfl (Nat.le_of_ble_eq_true rfl) rfl ?_
            refine w_goto (tgt := 4) dX0_sift_114 rfl ?_
            exact w_drop (l' := [.ref l0, .int l1, .int r9, .int (l3 + 1), .null]) ⟨Or.inr rfl, Or.inr rfl, Or.inr rfl, Or.inr rfl, Or.inl rfl, trivial⟩ w
          · rw [if_neg c] at w
            refine w_aload_n dX0_sift_86 rfl ?_
            obtain ⟨e1, w⟩ := w
            refine w_getp dX0_sift_87 lk_RX0_16 e1 rfl ?_
            refine w_iload dX0_sift_90 rfl ?_
            refine w_iconst (v := (-1)) dX0_sift_92 rfl ?_
            obtain ⟨e2, w⟩ := w
            refine w_callV (As := [.int r9, .int (-1)]) (st := []) dX0_sift_93 mt_X6_set g_802 g_667 g_668 rfl e2 rfl rfl (Nat.le_of_ble_eq_true rfl) (Nat.le_refl _) ⟨Nat.le_refl _, Nat.le_refl _⟩ w ?_
            rintro v h16 ⟨rfl, w⟩
            refine w_aload_n dX0_sift_96 rfl ?_
            obtain ⟨e1, w⟩ := w
            refine w_getp dX0_sift_97 lk_RX0_35 e1 rfl ?_
            refine w_iload_n dX0_sift_100 rfl ?_
            refine w_iconst (v := (-1)) dX0_sift_101 rfl ?_
            obtain ⟨e2, w⟩ := w
            refine w_callV (As := [.int l2, .int (-1)]) (st := []) dX0_sift_102 mt_X6_set g_802 g_667 g_668 rfl e2 rfl rfl (Nat.le_of_ble_eq_true rfl) (Nat.le_refl _) ⟨Nat.le_refl _, Nat.le_refl _⟩ w ?_
            rintro v h18 ⟨rfl, w⟩
            refine w_goto (tgt := 111) dX0_sift_105 rfl ?_
            refine v_iinc (l' := [.ref l0, .int l1, .int l2, .int (l3 + 1), .int r9]) (v := l3 + 1) dX0_sift_111 rfl rfl (Nat.le_of_ble_eq_true rfl) rfl ?_
            refine w_goto (tgt := 4) dX0_sift_114 rfl ?_
            exact w_drop (l' := [.ref l0, .int l1, .int l2, .int (l3 + 1), .null]) ⟨Or.inr rfl, Or.inr rfl, Or.inr rfl, Or.inr rfl, Or.inl rfl, trivial⟩ w
        · rw [if_neg c] at w
          refine w_iload_n dX0_sift_42 rfl ?_
          refine w_iload_n dX0_sift_43 rfl ?_
          refine w_ic_ne (tgt := 51) dX0_sift_44 rfl (fun c => ?_) (fun c => ?_)
          · rw [if_neg c] at w
            refine w_aload_n dX0_sift_51 rfl ?_
            obtain ⟨e1, w⟩ := w
            refine w_getp dX0_sift_52 lk_RX0_41 e1 rfl ?_
            refine w_iload_n dX0_sift_55 rfl ?_
            obtain ⟨e2, w⟩ := w
            refine w_callV (As := [.int l2]) (st := []) dX0_sift_56 mt_X6_at g_797 g_724 g_725 rfl e2 rfl rfl (Nat.le_of_ble_eq_true rfl) (Nat.le_refl _) ⟨Nat.le_refl _, Nat.le_refl _⟩ w ?_
            rintro v h20 ⟨r19, rfl, w⟩
            refine v_istore_n (l' := [.ref l0, .int l1, .int r19, .int l3, .null]) dX0_sift_59 (Nat.le_of_ble_eq_true rfl) rfl ?_
            refine w_goto (tgt := 111) dX0_sift_60 rfl ?_
            refine v_iinc (l' := [.ref l0, .int l1, .int r19, .int (l3 + 1), .null]) (v := l3 + 1) dX0_sift_111 rfl rfl (Nat.le_of_ble_eq_true rfl) rfl ?_
            refine w_goto (tgt := 4) dX0_sift_114 rfl ?_
            exact w
          · rw [if_pos c] at w
            refine w_iconst (v := (-1)) dX0_sift_47 rfl ?_
            refine w_goto (tgt := 59) dX0_sift_48 rfl ?_
            refine v_istore_n (l' := [.ref l0, .int l1, .int (-1), .int l3, .null]) dX0_sift_59 (Nat.le_of_ble_eq_true rfl) rfl ?_
            refine w_goto (tgt := 111) dX0_sift_60 rfl ?_
            refine v_iinc (l' := [.ref l0, .int l1, .int (-1), .int (l3 + 1), .null]) (v := l3 + 1) dX0_sift_111 rfl rfl (Nat.le_of_ble_eq_true rfl) rfl ?_
            refine w_goto (tgt := 4) dX0_sift_114 rfl ?_
            exact w
set_option maxRecDepth 20000 in
set_option maxHeartbeats 4000000 in
theorem x_X0_lesserChild {G : pm_G} {d : Nat} {post : pm_PT} {h : pm_H} {l0 : Nat} {l1 : Int32} (w :
    (h.1[l0]? = some (0, 0)) ∧
    (h.1[gp h l0 7]? = some (0, 6)) ∧
    ci G d m_X6_at [.ref (gp h l0 7), .int l1] h fun r1 h2 =>
    (h2.1[l0]? = some (0, 0)) ∧
    (h2.1[gp h2 l0 8]? = some (0, 6)) ∧
    ci G d m_X6_at [.ref (gp h2 l0 8), .int l1] h2 fun r3 h4 =>
    if r3 = (-1) then (
      Wp G (m_X0_lesserChild, d + 1, 0, 0, post) (0, 0) 61 [.ref l0, .int l1, .int r1, .int r3, .null] [] h4
    ) else (
      (h4.1[l0]? = some (0, 0)) ∧
      (h4.1[gp h4 l0 3]? = some (0, 6)) ∧
      ci G d m_X6_at [.ref (gp h4 l0 3), .int r3] h4 fun r5 h6 =>
      (h6.1[gp h4 l0 0]? = some (0, 4)) ∧
      cf G d m_X4_keyOf [.ref (gp h4 l0 0), .int r5] h6 fun r7 h8 =>
      (h8.1[l0]? = some (0, 0)) ∧
      (h8.1[gp h8 l0 3]? = some (0, 6)) ∧
      ci G d m_X6_at [.ref (gp h8 l0 3), .int r1] h8 fun r9 h10 =>
      (h10.1[gp h8 l0 0]? = some (0, 4)) ∧
      cf G d m_X4_keyOf [.ref (gp h8 l0 0), .int r9] h10 fun r11 h12 =>
      if 0 ≤ (Op.cmpValue (FP.fcmp r7 r11) .g) then (
        Wp G (m_X0_lesserChild, d + 1, 0, 0, post) (0, 0) 61 [.ref l0, .int l1, .int r1, .int r3, .null] [] h12
      ) else (
        if r1 = (-1) then (
          (h12.1[l0]? = some (0, 0)) ∧
          (h12.1[gp h12 l0 7]? = some (0, 6)) ∧
          cv G d m_X6_set [.ref (gp h12 l0 7), .int l1, .int r3] h12 fun h14 =>
          (h14.1[l0]? = some (0, 0)) ∧
          (h14.1[gp h14 l0 8]? = some (0, 6)) ∧
          cv G d m_X6_set [.ref (gp h14 l0 8), .int l1, .int r1] h14 fun h16 =>
          post (some (.int r3)) h16
        ) else (
          (h12.1[l0]? = some (0, 0)) ∧
          (h12.1[gp h12 l0 7]? = some (0, 6)) ∧
          cv G d m_X6_set [.ref (gp h12 l0 7), .int l1, .int r3] h12 fun h18 =>
          (h18.1[l0]? = some (0, 0)) ∧
          (h18.1[gp h18 l0 8]? = some (0, 6)) ∧
          cv G d m_X6_set [.ref (gp h18 l0 8), .int l1, .int r1] h18 fun h20 =>
          post (some (.int r3)) h20
        )
      )
    )) :
    Wp G (m_X0_lesserChild, d + 1, 0, 0, post) (0, 0) 0 [.ref l0, .int l1, .null, .null, .null] [] h := by
  refine w_aload_n dX0_lesserChild_0 rfl ?_
  obtain ⟨e1, w⟩ := w
  refine w_getp dX0_lesserChild_1 lk_RX0_35 e1 rfl ?_
  refine w_iload_n dX0_lesserChild_4 rfl ?_
  obtain ⟨e2, w⟩ := w
  refine w_callV (As := [.int l1]) (st := []) dX0_lesserChild_5 mt_X6_at g_797 g_724 g_725 rfl e2 rfl rfl (Nat.le_of_ble_eq_true rfl) (Nat.le_refl _) ⟨Nat.le_refl _, Nat.le_refl _⟩ w ?_
  rintro v h2 ⟨r1, rfl, w⟩
  refine v_istore_n (l' := [.ref l0, .int l1, .int r1, .null, .null]) dX0_lesserChild_8 (Nat.le_of_ble_eq_true rfl) rfl ?_
  refine w_aload_n dX0_lesserChild_9 rfl ?_
  obtain ⟨e1, w⟩ := w
  refine w_getp dX0_lesserChild_10 lk_RX0_38 e1 rfl ?_
  refine w_iload_n dX0_lesserChild_13 rfl ?_
  obtain ⟨e2, w⟩ := w
  refine w_callV (As := [.int l1]) (st := []) dX0_lesserChild_14 mt_X6_at g_797 g_724 g_725 rfl e2 rfl rfl (Nat.le_of_ble_eq_true rfl) (Nat.le_refl _) ⟨Nat.le_refl _, Nat.le_refl _⟩ w ?_
  rintro v h4 ⟨r3, rfl, w⟩
  refine v_istore_n (l' := [.ref l0, .int l1, .int r1, .int r3, .null]) dX0_lesserChild_17 (Nat.le_of_ble_eq_true rfl) rfl ?_
  refine w_iload_n dX0_lesserChild_18 rfl ?_
  refine w_iconst (v := (-1)) dX0_lesserChild_19 rfl ?_
  refine w_ic_eq (tgt := 61) dX0_lesserChild_20 rfl (fun c => ?_) (fun c => ?_)
  · rw [if_pos c] at w
    exact w
  · rw [if_neg c] at w
    refine w_aload_n dX0_lesserChild_23 rfl ?_
    obtain ⟨e1, w⟩ := w
    refine w_getp dX0_lesserChild_24 lk_RX0_62 e1 rfl ?_
    refine w_aload_n dX0_lesserChild_27 rfl ?_
    refine w_getp dX0_lesserChild_28 lk_RX0_23 e1 rfl ?_
    refine w_iload_n dX0_lesserChild_31 rfl ?_
    obtain ⟨e2, w⟩ := w
    refine w_callV (As := [.int r3]) (st := [.ref (gp h4 l0 0)]) dX0_lesserChild_32 mt_X6_at g_797 g_724 g_725 rfl e2 rfl rfl (Nat.le_of_ble_eq_true rfl) (Nat.le_refl _) ⟨Nat.le_refl _, Nat.le_refl _⟩ w ?_
    rintro v h6 ⟨r5, rfl, w⟩
    obtain ⟨e1, w⟩ := w
    refine w_callV (As := [.int r5]) (st := []) dX0_lesserChild_35 mt_X4_keyOf g_847 g_780 g_781 rfl e1 rfl rfl (Nat.le_of_ble_eq_true rfl) (Nat.le_refl _) ⟨Nat.le_refl _, Nat.le_refl _⟩ w ?_
    rintro v h8 ⟨r7, rfl, w⟩
    refine w_aload_n dX0_lesserChild_38 rfl ?_
    obtain ⟨e1, w⟩ := w
    refine w_getp dX0_lesserChild_39 lk_RX0_62 e1 rfl ?_
    refine w_aload_n dX0_lesserChild_42 rfl ?_
    refine w_getp dX0_lesserChild_43 lk_RX0_23 e1 rfl ?_
    refine w_iload_n dX0_lesserChild_46 rfl ?_
    obtain ⟨e2, w⟩ := w
    refine w_callV (As := [.int r1]) (st := [.ref (gp h8 l0 0), .float r7]) dX0_lesserChild_47 mt_X6_at g_797 g_724 g_725 rfl e2 rfl rfl (Nat.le_of_ble_eq_true rfl) (Nat.le_refl _) ⟨Nat.le_refl _, Nat.le_refl _⟩ w ?_
    rintro v h10 ⟨r9, rfl, w⟩
    obtain ⟨e1, w⟩ := w
    refine w_callV (As := [.int r9]) (st := [.float r7]) dX0_lesserChild_50 mt_X4_keyOf g_847 g_780 g_781 rfl e1 rfl rfl (Nat.le_of_ble_eq_true rfl) (Nat.le_refl _) ⟨Nat.le_refl _, Nat.le_refl _⟩ w ?_
    rintro v h12 ⟨r11, rfl, w⟩
    refine w_fcmp dX0_lesserChild_53 ?_
    refine w_if_ge (tgt := 61) dX0_lesserChild_54 rfl (fun c => ?_) (fun c => ?_)
    · rw [if_pos c] at w
      exact w
    · rw [if_neg c] at w
      refine w_iconst (v := 1) dX0_lesserChild_57 rfl ?_
      refine w_goto (tgt := 62) dX0_lesserChild_58 rfl ?_
      refine v_istore (l' := [.ref l0, .int l1, .int r1, .int r3, .int 1]) dX0_lesserChild_62 (Nat.le_of_ble_eq_true rfl) rfl ?_
      refine w_iload_n dX0_lesserChild_64 rfl ?_
      refine w_iconst (v := (-1)) dX0_lesserChild_65 rfl ?_
      refine w_ic_eq (tgt := 76) dX0_lesserChild_66 rfl (fun c => ?_) (fun c => ?_)
      · rw [if_pos c] at w
        refine w_aload_n dX0_lesserChild_76 rfl ?_
        obtain ⟨e1, w⟩ := w
        refine w_getp dX0_lesserChild_77 lk_RX0_35 e1 rfl ?_
        refine w_iload_n dX0_lesserChild_80 rfl ?_
        refine w_iload_n dX0_lesserChild_81 rfl ?_
        obtain ⟨e2, w⟩ := w
        refine w_callV (As := [.int l1, .int r3]) (st := []) dX0_lesserChild_82 mt_X6_set g_802 g_667 g_668 rfl e2 rfl rfl (Nat.le_of_ble_eq_true rfl) (Nat.le_refl _) ⟨Nat.le_refl _, Nat.le_refl _⟩ w ?_
        rintro v h14 ⟨rfl, w⟩
        refine w_aload_n dX0_lesserChild_85 rfl ?_
        obtain ⟨e1, w⟩ := w
        refine w_getp dX0_lesserChild_86 lk_RX0_38 e1 rfl ?_
        refine w_iload_n dX0_lesserChild_89 rfl ?_
        refine w_iload_n dX0_lesserChild_90 rfl ?_
        obtain ⟨e2, w⟩ := w
        refine w_callV (As := [.int l1, .int r1]) (st := []) dX0_lesserChild_91 mt_X6_set g_802 g_667 g_668 rfl e2 rfl rfl (Nat.le_of_ble_eq_true rfl) (Nat.le_refl _) ⟨Nat.le_refl _, Nat.le_refl _⟩ w ?_
        rintro v h16 ⟨rfl, w⟩
        refine w_iload_n dX0_lesserChild_94 rfl ?_
        exact w_ireturn dX0_lesserChild_95 rfl rfl ⟨Nat.le_refl _, Nat.le_refl _⟩ w
      · rw [if_neg c] at w
        refine w_iload dX0_lesserChild_69 rfl ?_
        refine w_if_ne (tgt := 76) dX0_lesserChild_71 rfl (fun c => ?_) (fun c => ?_)
        · refine w_aload_n dX0_lesserChild_76 rfl ?_
          obtain ⟨e1, w⟩ := w
          refine w_getp dX0_lesserChild_77 lk_RX0_35 e1 rfl ?_
          refine w_iload_n dX0_lesserChild_80 rfl ?_
          refine w_iload_n dX0_lesserChild_81 rfl ?_
          obtain ⟨e2, w⟩ := w
          refine w_callV (As := [.int l1, .int r3]) (st := []) dX0_lesserChild_82 mt_X6_set g_802 g_667 g_668 rfl e2 rfl rfl (Nat.le_of_ble_eq_true rfl) (Nat.le_refl _) ⟨Nat.le_refl _, Nat.le_refl _⟩ w ?_
          rintro v h18 ⟨rfl, w⟩
          refine w_aload_n dX0_lesserChild_85 rfl ?_
          obtain ⟨e1, w⟩ := w
          refine w_getp dX0_lesserChild_86 lk_RX0_38 e1 rfl ?_
          refine w_iload_n dX0_lesserChild_89 rfl ?_
          refine w_iload_n dX0_lesserChild_90 rfl ?_
          obtain ⟨e2, w⟩ := w
          refine w_callV (As := [.int l1, .int r1]) (st := []) dX0_lesserChild_91 mt_X6_set g_802 g_667 g_668 rfl e2 rfl rfl (Nat.le_of_ble_eq_true rfl) (Nat.le_refl _) ⟨Nat.le_refl _, Nat.le_refl _⟩ w ?_
          rintro v h20 ⟨rfl, w⟩
          refine w_iload_n dX0_lesserChild_94 rfl ?_
          exact w_ireturn dX0_lesserChild_95 rfl rfl ⟨Nat.le_refl _, Nat.le_refl _⟩ w
        · exact absurd c (by decide)
set_option maxRecDepth 20000 in
set_option maxHeartbeats 4000000 in
theorem x_X0_lesserChild_61 {G : pm_G} {d : Nat} {post : pm_PT} {h : pm_H} {l0 : Nat} {l1 : Int32} {l2 : Int32} {l3 : Int32} (w :
    if l2 = (-1) then (
      (h.1[l0]? = some (0, 0)) ∧
      (h.1[gp h l0 7]? = some (0, 6)) ∧
      cv G d m_X6_set [.ref (gp h l0 7), .int l1, .int l3] h fun h2 =>
      (h2.1[l0]? = some (0, 0)) ∧
      (h2.1[gp h2 l0 8]? = some (0, 6)) ∧
      cv G d m_X6_set [.ref (gp h2 l0 8), .int l1, .int l2] h2 fun h4 =>
      post (some (.int l3)) h4
    ) else (
      post (some (.int l2)) h
    )) :
    Wp G (m_X0_lesserChild, d + 1, 0, 0, post) (0, 0) 61 [.ref l0, .int l1, .int l2, .int l3, .null] [] h := by
  refine w_iconst (v := 0) dX0_lesserChild_61 rfl ?_
  refine v_istore (l' := [.ref l0, .int l1, .int l2, .int l3, .int 0]) dX0_lesserChild_62 (Nat.le_of_ble_eq_true rfl) rfl ?_
  refine w_iload_n dX0_lesserChild_64 rfl ?_
  refine w_iconst (v := (-1)) dX0_lesserChild_65 rfl ?_
  refine w_ic_eq (tgt := 76) dX0_lesserChild_66 rfl (fun c => ?_) (fun c => ?_)
  · rw [if_pos c] at w
    refine w_aload_n dX0_lesserChild_76 rfl ?_
    obtain ⟨e1, w⟩ := w
    refine w_getp dX0_lesserChild_77 lk_RX0_35 e1 rfl ?_
    refine w_iload_n dX0_lesserChild_80 rfl ?_
    refine w_iload_n dX0_lesserChild_81 rfl ?_
    obtain ⟨e2, w⟩ := w
    refine w_callV (As := [.int l1, .int l3]) (st := []) dX0_lesserChild_82 mt_X6_set g_802 g_667 g_668 rfl e2 rfl rfl (Nat.le_of_ble_eq_true rfl) (Nat.le_refl _) ⟨Nat.le_refl _, Nat.le_refl _⟩ w ?_
    rintro v h2 ⟨rfl, w⟩
    refine w_aload_n dX0_lesserChild_85 rfl ?_
    obtain ⟨e1, w⟩ := w
    refine w_getp dX0_lesserChild_86 lk_RX0_38 e1 rfl ?_
    refine w_iload_n dX0_lesserChild_89 rfl ?_
    refine w_iload_n dX0_lesserChild_90 rfl ?_
    obtain ⟨e2, w⟩ := w
    refine w_callV (As := [.int l1, .int l2]) (st := []) dX0_lesserChild_91 mt_X6_set g_802 g_667 g_668 rfl e2 rfl rfl (Nat.le_of_ble_eq_true rfl) (Nat.le_refl _) ⟨Nat.le_refl _, Nat.le_refl _⟩ w ?_
    rintro v h4 ⟨rfl, w⟩
    refine w_iload_n dX0_lesserChild_94 rfl ?_
    exact w_ireturn dX0_lesserChild_95 rfl rfl ⟨Nat.le_refl _, Nat.le_refl _⟩ w
  · rw [if_neg c] at w
    refine w_iload dX0_lesserChild_69 rfl ?_
    refine w_if_ne (tgt := 76) dX0_lesserChild_71 rfl (fun c => ?_) (fun c => ?_)
    · exact absurd c (by decide)
    · refine w_iload_n dX0_lesserChild_74 rfl ?_
      exact w_ireturn dX0_lesserChild_75 rfl rfl ⟨Nat.le_refl _, Nat.le_refl _⟩ w
set_option maxRecDepth 20000 in
set_option maxHeartbeats 4000000 in
theorem x_X0_drawUp {G : pm_G} {d : Nat} {post : pm_PT} {h : pm_H} {l0 : Nat} {l1 : Int32} {l2 : Int32} (w :
    (h.1[l0]? = some (0, 0)) ∧
    (h.1[gp h l0 4]? = some (0, 6)) ∧
    ci G d m_X6_at [.ref (gp h l0 4), .int l1] h fun r1 h2 =>
    (h2.1[l0]? = some (0, 0)) ∧
    (h2.1[gp h2 l0 6]? = some (0, 6)) ∧
    ci G d m_X6_at [.ref (gp h2 l0 6), .int l2] h2 fun r3 h4 =>
    if r3 = 0 then (
      (h4.1[l0]? = some (0, 0)) ∧
      (h4.1[gp h4 l0 4]? = some (0, 6)) ∧
      cv G d m_X6_set [.ref (gp h4 l0 4), .int l2, .int r1] h4 fun h6 =>
      Wp G (m_X0_drawUp, d + 1, 0, 0, post) (0, 0) 51 [.ref l0, .int l1, .int l2, .int r1, .int 0] [] h6
    ) else (
      (h4.1[l0]? = some (0, 0)) ∧
      (h4.1[gp h4 l0 5]? = some (0, 6)) ∧
      ci G d m_X6_at [.ref (gp h4 l0 5), .int l2] h4 fun r7 h8 =>
      (h8.1[gp h4 l0 11]? = some (0, 6)) ∧
      cv G d m_X6_set [.ref (gp h4 l0 11), .int r7, .int r1] h8 fun h10 =>
      Wp G (m_X0_drawUp, d + 1, 0, 0, post) (0, 0) 51 [.ref l0, .int l1, .int l2, .int r1, .int 0] [] h10
    )) :
    Wp G (m_X0_drawUp, d + 1, 0, 0, post) (0, 0) 0 [.ref l0, .int l1, .int l2, .null, .null] [] h := by
  refine w_aload_n dX0_drawUp_0 rfl ?_
  obtain ⟨e1, w⟩ := w
  refine w_getp dX0_drawUp_1 lk_RX0_26 e1 rfl ?_
  refine w_iload_n dX0_drawUp_4 rfl ?_
  obtain ⟨e2, w⟩ := w
  refine w_callV (As := [.int l1]) (st := []) dX0_drawUp_5 mt_X6_at g_797 g_724 g_725 rfl e2 rfl rfl (Nat.le_of_ble_eq_true rfl) (Nat.le_refl _) ⟨Nat.le_refl _, Nat.le_refl _⟩ w ?_
  rintro v h2 ⟨r1, rfl, w⟩
  refine v_istore_n (l' := [.ref l0, .int l1, .int l2, .int r1, .null]) dX0_drawUp_8 (Nat.le_of_ble_eq_true rfl) rfl ?_
  refine w_aload_n dX0_drawUp_9 rfl ?_
  obtain ⟨e1, w⟩ := w
  refine w_getp dX0_drawUp_10 lk_RX0_32 e1 rfl ?_
  refine w_iload_n dX0_drawUp_13 rfl ?_
  obtain ⟨e2, w⟩ := w
  refine w_callV (As := [.int l2]) (st := []) dX0_drawUp_14 mt_X6_at g_797 g_724 g_725 rfl e2 rfl rfl (Nat.le_of_ble_eq_true rfl) (Nat.le_refl _) ⟨Nat.le_refl _, Nat.le_refl _⟩ w ?_
  rintro v h4 ⟨r3, rfl, w⟩
  refine w_if_ne (tgt := 32) dX0_drawUp_17 rfl (fun c => ?_) (fun c => ?_)
  · rw [if_neg c] at w
    refine w_aload_n dX0_drawUp_32 rfl ?_
    obtain ⟨e1, w⟩ := w
    refine w_getp dX0_drawUp_33 lk_RX0_47 e1 rfl ?_
    refine w_aload_n dX0_drawUp_36 rfl ?_
    refine w_getp dX0_drawUp_37 lk_RX0_29 e1 rfl ?_
    refine w_iload_n dX0_drawUp_40 rfl ?_
    obtain ⟨e2, w⟩ := w
    refine w_callV (As := [.int l2]) (st := [.ref (gp h4 l0 11)]) dX0_drawUp_41 mt_X6_at g_797 g_724 g_725 rfl e2 rfl rfl (Nat.le_of_ble_eq_true rfl) (Nat.le_refl _) ⟨Nat.le_refl _, Nat.le_refl _⟩ w ?_
    rintro v h8 ⟨r7, rfl, w⟩
    refine w_iload_n dX0_drawUp_44 rfl ?_
    obtain ⟨e1, w⟩ := w
    refine w_callV (As := [.int r7, .int r1]) (st := []) dX0_drawUp_45 mt_X6_set g_802 g_667 g_668 rfl e1 rfl rfl (Nat.le_of_ble_eq_true rfl) (Nat.le_refl _) ⟨Nat.le_refl _, Nat.le_refl _⟩ w ?_
    rintro v h10 ⟨rfl, w⟩
    refine w_iconst (v := 0) dX0_drawUp_48 rfl ?_
    refine v_istore (l' := [.ref l0, .int l1, .int l2, .int r1, .int 0]) dX0_drawUp_49 (Nat.le_of_ble_eq_true rfl) rfl ?_
    exact w
  · rw [if_pos c] at w
    refine w_aload_n dX0_drawUp_20 rfl ?_
    obtain ⟨e1, w⟩ := w
    refine w_getp dX0_drawUp_21 lk_RX0_26 e1 rfl ?_
    refine w_iload_n dX0_drawUp_24 rfl ?_
    refine w_iload_n dX0_drawUp_25 rfl ?_
    obtain ⟨e2, w⟩ := w
    refine w_callV (As := [.int l2, .int r1]) (st := []) dX0_drawUp_26 mt_X6_set g_802 g_667 g_668 rfl e2 rfl rfl (Nat.le_of_ble_eq_true rfl) (Nat.le_refl _) ⟨Nat.le_refl _, Nat.le_refl _⟩ w ?_
    rintro v h6 ⟨rfl, w⟩
    refine w_goto (tgt := 48) dX0_drawUp_29 rfl ?_
    refine w_iconst (v := 0) dX0_drawUp_48 rfl ?_
    refine v_istore (l' := [.ref l0, .int l1, .int l2, .int r1, .int 0]) dX0_drawUp_49 (Nat.le_of_ble_eq_true rfl) rfl ?_
    exact w
set_option maxRecDepth 20000 in
set_option maxHeartbeats 4000000 in
theorem x_X0_drawUp_51 {G : pm_G} {d : Nat} {post : pm_PT} {h : pm_H} {l0 : Nat} {l1 : Int32} {l2 : Int32} {l3 : Int32} {l4 : Int32} (w :
    if 20 ≤ l4 then (
      Wp G (m_X0_drawUp, d + 1, 0, 0, post) (0, 0) 87 [.ref l0, .int l1, .int l2, .null, .null] [] h
    ) else (
      if l3 = (-1) then (
        Wp G (m_X0_drawUp, d + 1, 0, 0, post) (0, 0) 87 [.ref l0, .int l1, .int l2, .null, .null] [] h
      ) else (
        (h.1[l0]? = some (0, 0)) ∧
        (h.1[gp h l0 12]? = some (0, 6)) ∧
        cv G d m_X6_set [.ref (gp h l0 12), .int l3, .int l2] h fun h2 =>
        (h2.1[l0]? = some (0, 0)) ∧
        (h2.1[gp h2 l0 11]? = some (0, 6)) ∧
        ci G d m_X6_at [.ref (gp h2 l0 11), .int l3] h2 fun r3 h4 =>
        Wp G (m_X0_drawUp, d + 1, 0, 0, post) (0, 0) 51 [.ref l0, .int l1, .int l2, .int r3, .int (l4 + 1)] [] h4
      )
    )) :
    Wp G (m_X0_drawUp, d + 1, 0, 0, post) (0, 0) 51 [.ref l0, .int l1, .int l2, .int l3, .int l4] [] h := by
  refine w_iload dX0_drawUp_51 rfl ?_
  refine w_bipush (v := 20) dX0_drawUp_53 rfl ?_
  refine w_ic_ge (tgt := 87) dX0_drawUp_55 rfl (fun c => ?_) (fun c => ?_)
  · rw [if_pos c] at w
    exact w_drop (l' := [.ref l0, .int l1, .int l2, .null, .null]) ⟨Or.inr rfl, Or.inr rfl, Or.inr rfl, Or.inl rfl, Or.inl rfl, trivial⟩ w
  · rw [if_neg c] at w
    refine w_iload_n dX0_drawUp_58 rfl ?_
    refine w_iconst (v := (-1)) dX0_drawUp_59 rfl ?_
    refine w_ic_eq (tgt := 87) dX0_drawUp_60 rfl (fun c => ?_) (fun c => ?_)
    · rw [if_pos c] at w
      exact w_drop (l' := [.ref l0, .int l1, .int l2, .null, .null]) ⟨Or.inr rfl, Or.inr rfl, Or.inr rfl, Or.inl rfl, Or.inl rfl, trivial⟩ w
    · rw [if_neg c] at w
      refine w_aload_n dX0_drawUp_63 rfl ?_
      obtain ⟨e1, w⟩ := w
      refine w_getp dX0_drawUp_64 lk_RX0_50 e1 rfl ?_
      refine w_iload_n dX0_drawUp_67 rfl ?_
      refine w_iload_n dX0_drawUp_68 rfl ?_
      obtain ⟨e2, w⟩ := w
      refine w_callV (As := [.int l3, .int l2]) (st := []) dX0_drawUp_69 mt_X6_set g_802 g_667 g_668 rfl e2 rfl rfl (Nat.le_of_ble_eq_true rfl) (Nat.le_refl _) ⟨Nat.le_refl _, Nat.le_refl _⟩ w ?_
      rintro v h2 ⟨rfl, w⟩
      refine w_aload_n dX0_drawUp_72 rfl ?_
      obtain ⟨e1, w⟩ := w
      refine w_getp dX0_drawUp_73 lk_RX0_47 e1 rfl ?_
      refine w_iload_n dX0_drawUp_76 rfl ?_
      obtain ⟨e2, w⟩ := w
      refine w_callV (As := [.int l3]) (st := []) dX0_drawUp_77 mt_X6_at g_797 g_724 g_725 rfl e2 rfl rfl (Nat.le_of_ble_eq_true rfl) (Nat.le_refl _) ⟨Nat.le_refl _, Nat.le_refl _⟩ w ?_
      rintro v h4 ⟨r3, rfl, w⟩
      refine v_istore_n (l' := [.ref l0, .int l1, .int l2, .int r3, .int l4]) dX0_drawUp_80 (Nat.le_of_ble_eq_true rfl) rfl ?_
      refine v_iinc (l' := [.ref l0, .int l1, .int l2, .int r3, .int (l4 + 1)]) (v := l4 + 1) dX0_drawUp_81 rfl rfl (Nat.le_of_ble_eq_true rfl) rfl ?_
      refine w_goto (tgt := 51) dX0_drawUp_84 rfl ?_
      exact w
set_option maxRecDepth 20000 in
set_option maxHeartbeats 4000000 in
theorem x_X0_drawUp_87 {G : pm_G} {d : Nat} {post : pm_PT} {h : pm_H} {l0 : Nat} {l1 : Int32} {l2 : Int32} (w :
    (h.1[l0]? = some (0, 0)) ∧
    (h.1[gp h l0 5]? = some (0, 6)) ∧
    ci G d m_X6_at [.ref (gp h l0 5), .int l1] h fun r1 h2 =>
    (h2.1[gp h l0 5]? = some (0, 6)) ∧
    cv G d m_X6_set [.ref (gp h l0 5), .int l2, .int r1] h2 fun h4 =>
    (h4.1[l0]? = some (0, 0)) ∧
    (h4.1[gp h4 l0 6]? = some (0, 6)) ∧
    ci G d m_X6_at [.ref (gp h4 l0 6), .int l2] h4 fun r5 h6 =>
    (h6.1[l0]? = some (0, 0)) ∧
    (h6.1[gp h6 l0 6]? = some (0, 6)) ∧
    ci G d m_X6_at [.ref (gp h6 l0 6), .int l1] h6 fun r7 h8 =>
    (h8.1[gp h4 l0 6]? = some (0, 6)) ∧
    cv G d m_X6_set [.ref (gp h4 l0 6), .int l2, .int (r5 + r7)] h8 fun h10 =>
    (h10.1[l0]? = some (0, 0)) ∧
    (h10.1[gp h10 l0 3]? = some (0, 6)) ∧
    ci G d m_X6_at [.ref (gp h10 l0 3), .int l1] h10 fun r11 h12 =>
    (h12.1[gp h10 l0 3]? = some (0, 6)) ∧
    cv G d m_X6_set [.ref (gp h10 l0 3), .int l2, .int r11] h12 fun h14 =>
    (h14.1[l0]? = some (0, 0)) ∧
    (h14.1[gp h14 l0 4]? = some (0, 6)) ∧
    cv G d m_X6_set [.ref (gp h14 l0 4), .int l1, .int (-1)] h14 fun h16 =>
    (h16.1[l0]? = some (0, 0)) ∧
    (h16.1[gp h16 l0 6]? = some (0, 6)) ∧
    cv G d m_X6_set [.ref (gp h16 l0 6), .int l1, .int 0] h16 fun h18 =>
    post none h18) :
    Wp G (m_X0_drawUp, d + 1, 0, 0, post) (0, 0) 87 [.ref l0, .int l1, .int l2, .null, .null] [] h := by
  refine w_aload_n dX0_drawUp_87 rfl ?_
  obtain ⟨e1, w⟩ := w
  refine w_getp dX0_drawUp_88 lk_RX0_29 e1 rfl ?_
  refine w_iload_n dX0_drawUp_91 rfl ?_
  refine w_aload_n dX0_drawUp_92 rfl ?_
  refine w_getp dX0_drawUp_93 lk_RX0_29 e1 rfl ?_
  refine w_iload_n dX0_drawUp_96 rfl ?_
  obtain ⟨e2, w⟩ := w
  refine w_callV (As := [.int l1]) (st := [.int l2, .ref (gp h l0 5)]) dX0_drawUp_97 mt_X6_at g_797 g_724 g_725 rfl e2 rfl rfl (Nat.le_of_ble_eq_true rfl) (Nat.le_refl _) ⟨Nat.le_refl _, Nat.le_refl _⟩ w ?_
  rintro v h2 ⟨r1, rfl, w⟩
  obtain ⟨e1, w⟩ := w
  refine w_callV (As := [.int l2, .int r1]) (st := []) dX0_drawUp_100 mt_X6_set g_802 g_667 g_668 rfl e1 rfl rfl (Nat.le_of_ble_eq_true rfl) (Nat.le_refl _) ⟨Nat.le_refl _, Nat.le_refl _⟩ w ?_
  rintro v h4 ⟨rfl, w⟩
  refine w_aload_n dX0_drawUp_103 rfl ?_
  obtain ⟨e1, w⟩ := w
  refine w_getp dX0_drawUp_104 lk_RX0_32 e1 rfl ?_
  refine w_iload_n dX0_drawUp_107 rfl ?_
  refine w_aload_n dX0_drawUp_108 rfl ?_
  refine w_getp dX0_drawUp_109 lk_RX0_32 e1 rfl ?_
  refine w_iload_n dX0_drawUp_112 rfl ?_
  obtain ⟨e2, w⟩ := w
  refine w_callV (As := [.int l2]) (st := [.int l2, .ref (gp h4 l0 6)]) dX0_drawUp_113 mt_X6_at g_797 g_724 g_725 rfl e2 rfl rfl (Nat.le_of_ble_eq_true rfl) (Nat.le_refl _) ⟨Nat.le_refl _, Nat.le_refl _⟩ w ?_
  rintro v h6 ⟨r5, rfl, w⟩
  refine w_aload_n dX0_drawUp_116 rfl ?_
  obtain ⟨e1, w⟩ := w
  refine w_getp dX0_drawUp_117 lk_RX0_32 e1 rfl ?_
  refine w_iload_n dX0_drawUp_120 rfl ?_
  obtain ⟨e2, w⟩ := w
  refine w_callV (As := [.int l1]) (st := [.int r5, .int l2, .ref (gp h4 l0 6)]) dX0_drawUp_121 mt_X6_at g_797 g_724 g_725 rfl e2 rfl rfl (Nat.le_of_ble_eq_true rfl) (Nat.le_refl _) ⟨Nat.le_refl _, Nat.le_refl _⟩ w ?_
  rintro v h8 ⟨r7, rfl, w⟩
  refine w_iadd dX0_drawUp_124 ?_
  obtain ⟨e1, w⟩ := w
  refine w_callV (As := [.int l2, .int (r5 + r7)]) (st := []) dX0_drawUp_125 mt_X6_set g_802 g_667 g_668 rfl e1 rfl rfl (Nat.le_of_ble_eq_true rfl) (Nat.le_refl _) ⟨Nat.le_refl _, Nat.le_refl _⟩ w ?_
  rintro v h10 ⟨rfl, w⟩
  refine w_aload_n dX0_drawUp_128 rfl ?_
  obtain ⟨e1, w⟩ := w
  refine w_getp dX0_drawUp_129 lk_RX0_23 e1 rfl ?_
  refine w_iload_n dX0_drawUp_132 rfl ?_
  refine w_aload_n dX0_drawUp_133 rfl ?_
  refine w_getp dX0_drawUp_134 lk_RX0_23 e1 rfl ?_
  refine w_iload_n dX0_drawUp_137 rfl ?_
  obtain ⟨e2, w⟩ := w
  refine w_callV (As := [.int l1]) (st := [.int l2, .ref (gp h10 l0 3)]) dX0_drawUp_138 mt_X6_at g_797 g_724 g_725 rfl e2 rfl rfl (Nat.le_of_ble_eq_true rfl) (Nat.le_refl _) ⟨Nat.le_refl _, Nat.le_refl _⟩ w ?_
  rintro v h12 ⟨r11, rfl, w⟩
  obtain ⟨e1, w⟩ := w
  refine w_callV (As := [.int l2, .int r11]) (st := []) dX0_drawUp_141 mt_X6_set g_802 g_667 g_668 rfl e1 rfl rfl (Nat.le_of_ble_eq_true rfl) (Nat.le_refl _) ⟨Nat.le_refl _, Nat.le_refl _⟩ w ?_
  rintro v h14 ⟨rfl, w⟩
  refine w_aload_n dX0_drawUp_144 rfl ?_
  obtain ⟨e1, w⟩ := w
  refine w_getp dX0_drawUp_145 lk_RX0_26 e1 rfl ?_
  refine w_iload_n dX0_drawUp_148 rfl ?_
  refine w_iconst (v := (-1)) dX0_drawUp_149 rfl ?_
  obtain ⟨e2, w⟩ := w
  refine w_callV (As := [.int l1, .int (-1)]) (st := []) dX0_drawUp_150 mt_X6_set g_802 g_667 g_668 rfl e2 rfl rfl (Nat.le_of_ble_eq_true rfl) (Nat.le_refl _) ⟨Nat.le_refl _, Nat.le_refl _⟩ w ?_
  rintro v h16 ⟨rfl, w⟩
  refine w_aload_n dX0_drawUp_153 rfl ?_
  obtain ⟨e1, w⟩ := w
  refine w_getp dX0_drawUp_154 lk_RX0_32 e1 rfl ?_
  refine w_iload_n dX0_drawUp_157 rfl ?_
  refine w_iconst (v := 0) dX0_drawUp_158 rfl ?_
  obtain ⟨e2, w⟩ := w
  refine w_callV (As := [.int l1, .int 0]) (st := []) dX0_drawUp_159 mt_X6_set g_802 g_667 g_668 rfl e2 rfl rfl (Nat.le_of_ble_eq_true rfl) (Nat.le_refl _) ⟨Nat.le_refl _, Nat.le_refl _⟩ w ?_
  rintro v h18 ⟨rfl, w⟩
  exact w_return dX0_drawUp_162 rfl ⟨Nat.le_refl _, Nat.le_refl _⟩ w
set_option maxRecDepth 20000 in
set_option maxHeartbeats 4000000 in
theorem x_X0_isLeaf {G : pm_G} {d : Nat} {post : pm_PT} {h : pm_H} {l0 : Nat} {l1 : Int32} (w :
    (h.1[l0]? = some (0, 0)) ∧
    (h.1[gp h l0 7]? = some (0, 6)) ∧
    ci G d m_X6_at [.ref (gp h l0 7), .int l1] h fun r1 h2 =>
    if r1 = (-1) then (
      (h2.1[l0]? = some (0, 0)) ∧
      (h2.1[gp h2 l0 8]? = some (0, 6)) ∧
      ci G d m_X6_at [.ref (gp h2 l0 8), .int l1] h2 fun r3 h4 =>
      if r3 = (-1) then (
        post (some (.int 1)) h4
      ) else (
        post (some (.int 0)) h4
      )
    ) else (
      post (some (.int 0)) h2
    )) :
    Wp G (m_X0_isLeaf, d + 1, 0, 0, post) (0, 0) 0 [.ref l0, .int l1] [] h := by
  refine w_aload_n dX0_isLeaf_0 rfl ?_
  obtain ⟨e1, w⟩ := w
  refine w_getp dX0_isLeaf_1 lk_RX0_35 e1 rfl ?_
  refine w_iload_n dX0_isLeaf_4 rfl ?_
  obtain ⟨e2, w⟩ := w
  refine w_callV (As := [.int l1]) (st := []) dX0_isLeaf_5 mt_X6_at g_797 g_724 g_725 rfl e2 rfl rfl (Nat.le_of_ble_eq_true rfl) (Nat.le_refl _) ⟨Nat.le_refl _, Nat.le_refl _⟩ w ?_
  rintro v h2 ⟨r1, rfl, w⟩
  refine w_iconst (v := (-1)) dX0_isLeaf_8 rfl ?_
  refine w_ic_ne (tgt := 28) dX0_isLeaf_9 rfl (fun c => ?_) (fun c => ?_)
  · rw [if_neg c] at w
    refine w_iconst (v := 0) dX0_isLeaf_28 rfl ?_
    exact w_ireturn dX0_isLeaf_29 rfl rfl ⟨Nat.le_refl _, Nat.le_refl _⟩ w
  · rw [if_pos c] at w
    refine w_aload_n dX0_isLeaf_12 rfl ?_
    obtain ⟨e1, w⟩ := w
    refine w_getp dX0_isLeaf_13 lk_RX0_38 e1 rfl ?_
    refine w_iload_n dX0_isLeaf_16 rfl ?_
    obtain ⟨e2, w⟩ := w
    refine w_callV (As := [.int l1]) (st := []) dX0_isLeaf_17 mt_X6_at g_797 g_724 g_725 rfl e2 rfl rfl (Nat.le_of_ble_eq_true rfl) (Nat.le_refl _) ⟨Nat.le_refl _, Nat.le_refl _⟩ w ?_
    rintro v h4 ⟨r3, rfl, w⟩
    refine w_iconst (v := (-1)) dX0_isLeaf_20 rfl ?_
    refine w_ic_ne (tgt := 28) dX0_isLeaf_21 rfl (fun c => ?_) (fun c => ?_)
    · rw [if_neg c] at w
      refine w_iconst (v := 0) dX0_isLeaf_28 rfl ?_
      exact w_ireturn dX0_isLeaf_29 rfl rfl ⟨Nat.le_refl _, Nat.le_refl _⟩ w
    · rw [if_pos c] at w
      refine w_iconst (v := 1) dX0_isLeaf_24 rfl ?_
      refine w_goto (tgt := 29) dX0_isLeaf_25 rfl ?_
      exact w_ireturn dX0_isLeaf_29 rfl rfl ⟨Nat.le_refl _, Nat.le_refl _⟩ w
set_option maxRecDepth 20000 in
set_option maxHeartbeats 4000000 in
theorem x_X0_leastRoot {G : pm_G} {d : Nat} {post : pm_PT} {h : pm_H} {l0 : Nat} {l1 : Int32} (w :
    Wp G (m_X0_leastRoot, d + 1, 0, 0, post) (0, 0) 4 [.ref l0, .int l1, .int (-1), .int 0, .null] [] h) :
    Wp G (m_X0_leastRoot, d + 1, 0, 0, post) (0, 0) 0 [.ref l0, .int l1, .null, .null, .null] [] h := by
  refine w_iconst (v := (-1)) dX0_leastRoot_0 rfl ?_
  refine v_istore_n (l' := [.ref l0, .int l1, .int (-1), .null, .null]) dX0_leastRoot_1 (Nat.le_of_ble_eq_true rfl) rfl ?_
  refine w_iconst (v := 0) dX0_leastRoot_2 rfl ?_
  refine v_istore_n (l' := [.ref l0, .int l1, .int (-1), .int 0, .null]) dX0_leastRoot_3 (Nat.le_of_ble_eq_true rfl) rfl ?_
  exact w
set_option maxRecDepth 20000 in
set_option maxHeartbeats 4000000 in
theorem x_X0_leastRoot_4 {G : pm_G} {d : Nat} {post : pm_PT} {h : pm_H} {l0 : Nat} {l1 : Int32} {l2 : Int32} {l3 : Int32} (w :
    if 24 ≤ l3 then (
      post (some (.int l2)) h
    ) else (
      (h.1[l0]? = some (0, 0)) ∧
      ci G d m_X0_slot [.int l1, .int l3] h fun r1 h2 =>
      (h2.1[gp h l0 10]? = some (0, 6)) ∧
      ci G d m_X6_at [.ref (gp h l0 10), .int r1] h2 fun r3 h4 =>
      if r3 = (-1) then (
        Wp G (m_X0_leastRoot, d + 1, 0, 0, post) (0, 0) 4 [.ref l0, .int l1, .int l2, .int (l3 + 1), .null] [] h4
      ) else (
        if l2 = (-1) then (
          Wp G (m_X0_leastRoot, d + 1, 0, 0, post) (0, 0) 4 [.ref l0, .int l1, .int r3, .int (l3 + 1), .null] [] h4
        ) else (
          (h4.1[l0]? = some (0, 0)) ∧
          (h4.1[gp h4 l0 3]? = some (0, 6)) ∧
          ci G d m_X6_at [.ref (gp h4 l0 3), .int r3] h4 fun r5 h6 =>
          (h6.1[gp h4 l0 0]? = some (0, 4)) ∧
          cf G d m_X4_keyOf [.ref (gp h4 l0 0), .int r5] h6 fun r7 h8 =>
          (h8.1[l0]? = some (0, 0)) ∧
          (h8.1[gp h8 l0 3]? = some (0, 6)) ∧
          ci G d m_X6_at [.ref (gp h8 l0 3), .int l2] h8 fun r9 h10 =>
          (h10.1[gp h8 l0 0]? = some (0, 4)) ∧
          cf G d m_X4_keyOf [.ref (gp h8 l0 0), .int r9] h10 fun r11 h12 =>
          if 0 ≤ (Op.cmpValue (FP.fcmp r7 r11) .g) then (
            Wp G (m_X0_leastRoot, d + 1, 0, 0, post) (0, 0) 4 [.ref l0, .int l1, .int l2, .int (l3 + 1), .null] [] h12
          ) else (
            Wp G (m_X0_leastRoot, d + 1, 0, 0, post) (0, 0) 4 [.ref l0, .int l1, .int r3, .int (l3 + 1), .null] [] h12
          )
        )
      )
    )) :
    Wp G (m_X0_leastRoot, d + 1, 0, 0, post) (0, 0) 4 [.ref l0, .int l1, .int l2, .int l3, .null] [] h := by
  refine w_iload_n dX0_leastRoot_4 rfl ?_
  refine w_bipush (v := 24) dX0_leastRoot_5 rfl ?_
  refine w_ic_ge (tgt := 79) dX0_leastRoot_7 rfl (fun c => ?_) (fun c => ?_)
  · rw [if_pos c] at w
    refine w_iload_n dX0_leastRoot_79 rfl ?_
    exact w_ireturn dX0_leastRoot_80 rfl rfl ⟨Nat.le_refl _, Nat.le_refl _⟩ w
  · rw [if_neg c] at w
    refine w_aload_n dX0_leastRoot_10 rfl ?_
    obtain ⟨e1, w⟩ := w
    refine w_getp dX0_leastRoot_11 lk_RX0_44 e1 rfl ?_
    refine w_iload_n dX0_leastRoot_14 rfl ?_
    refine w_iload_n dX0_leastRoot_15 rfl ?_
    refine w_callS (As := [.int l1, .int l3]) (st := [.ref (gp h l0 10)]) dX0_leastRoot_16 mt_X0_slot g_815 g_816 rfl rfl (Nat.le_of_ble_eq_true rfl) (Nat.le_refl _) ⟨Nat.le_refl _, Nat.le_refl _⟩ w ?_
    rintro v h2 ⟨r1, rfl, w⟩
    obtain ⟨e1, w⟩ := w
    refine w_callV (As := [.int r1]) (st := []) dX0_leastRoot_19 mt_X6_at g_797 g_724 g_725 rfl e1 rfl rfl (Nat.le_of_ble_eq_true rfl) (Nat.le_refl _) ⟨Nat.le_refl _, Nat.le_refl _⟩ w ?_
    rintro v h4 ⟨r3, rfl, w⟩
    refine v_istore (l' := [.ref l0, .int l1, .int l2, .int l3, .int r3]) dX0_leastRoot_22 (Nat.le_of_ble_eq_true rfl) rfl ?_
    refine w_iload dX0_leastRoot_24 rfl ?_
    refine w_iconst (v := (-1)) dX0_leastRoot_26 rfl ?_
    refine w_ic_eq (tgt := 73) dX0_leastRoot_27 rfl (fun c => ?_) (fun c => ?_)
    · rw [if_pos c] at w
      refine v_iinc (l' := [.ref l0, .int l1, .int l2, .int (l3 + 1), .int r3]) (v := l3 + 1) dX0_leastRoot_73 rfl rfl (Nat.le_of_ble_eq_true rfl) rfl ?_
      refine w_goto (tgt := 4) dX0_leastRoot_76 rfl ?_
      exact w_drop (l' := [.ref l0, .int l1, .int l2, .int (l3 + 1), .null]) ⟨Or.inr rfl, Or.inr rfl, Or.inr rfl, Or.inr rfl, Or.inl rfl, trivial⟩ w
    · rw [if_neg c] at w
      refine w_iload_n dX0_leastRoot_30 rfl ?_
      refine w_iconst (v := (-1)) dX0_leastRoot_31 rfl ?_
      refine w_ic_eq (tgt := 70) dX0_leastRoot_32 rfl (fun c => ?_) (fun c => ?_)
      · rw [if_pos c] at w
        refine w_iload dX0_leastRoot_70 rfl ?_
        refine v_istore_n (l' := [.ref l0, .int l1, .int r3, .int l3, .int r3]) dX0_leastRoot_72 (Nat.le_of_ble_eq_true rfl) rfl ?_
        refine v_iinc (l' := [.ref l0, .int l1, .int r3, .int (l3 + 1), .int r3]) (v := l3 + 1) dX0_leastRoot_73 rfl rfl (Nat.le_of_ble_eq_true rfl) rfl ?_
        refine w_goto (tgt := 4) dX0_leastRoot_76 rfl ?_
        exact w_drop (l' := [.ref l0, .int l1, .int r3, .int (l3 + 1), .null]) ⟨Or.inr rfl, Or.inr rfl, Or.inr rfl, Or.inr rfl, Or.inl rfl, trivial⟩ w
      · rw [if_neg c] at w
        refine w_aload_n dX0_leastRoot_35 rfl ?_
        obtain ⟨e1, w⟩ := w
        refine w_getp dX0_leastRoot_36 lk_RX0_62 e1 rfl ?_
        refine w_aload_n dX0_leastRoot_39 rfl ?_
        refine w_getp dX0_leastRoot_40 lk_RX0_23 e1 rfl ?_
        refine w_iload dX0_leastRoot_43 rfl ?_
        obtain ⟨e2, w⟩ := w
        refine w_callV (As := [.int r3]) (st := [.ref (gp h4 l0 0)]) dX0_leastRoot_45 mt_X6_at g_797 g_724 g_725 rfl e2 rfl rfl (Nat.le_of_ble_eq_true rfl) (Nat.le_refl _) ⟨Nat.le_refl _, Nat.le_refl _⟩ w ?_
        rintro v h6 ⟨r5, rfl, w⟩
        obtain ⟨e1, w⟩ := w
        refine w_callV (As := [.int r5]) (st := []) dX0_leastRoot_48 mt_X4_keyOf g_847 g_780 g_781 rfl e1 rfl rfl (Nat.le_of_ble_eq_true rfl) (Nat.le_refl _) ⟨Nat.le_refl _, Nat.le_refl _⟩ w ?_
        rintro v h8 ⟨r7, rfl, w⟩
        refine w_aload_n dX0_leastRoot_51 rfl ?_
        obtain ⟨e1, w⟩ := w
        refine w_getp dX0_leastRoot_52 lk_RX0_62 e1 rfl ?_
        refine w_aload_n dX0_leastRoot_55 rfl ?_
        refine w_getp dX0_leastRoot_56 lk_RX0_23 e1 rfl ?_
        refine w_iload_n dX0_leastRoot_59 rfl ?_
        obtain ⟨e2, w⟩ := w
        refine w_callV (As := [.int l2]) (st := [.ref (gp h8 l0 0), .float r7]) dX0_leastRoot_60 mt_X6_at g_797 g_724 g_725 rfl e2 rfl rfl (Nat.le_of_ble_eq_true rfl) (Nat.le_refl _) ⟨Nat.le_refl _, Nat.le_refl _⟩ w ?_
        rintro v h10 ⟨r9, rfl, w⟩
        obtain ⟨e1, w⟩ := w
        refine w_callV (As := [.int r9]) (st := [.float r7]) dX0_leastRoot_63 mt_X4_keyOf g_847 g_780 g_781 rfl e1 rfl rfl (Nat.le_of_ble_eq_true rfl) (Nat.le_refl _) ⟨Nat.le_refl _, Nat.le_refl _⟩ w ?_
        rintro v h12 ⟨r11, rfl, w⟩
        refine w_fcmp dX0_leastRoot_66 ?_
        refine w_if_ge (tgt := 73) dX0_leastRoot_67 rfl (fun c => ?_) (fun c => ?_)
        · rw [if_pos c] at w
          refine v_iinc (l' := [.ref l0, .int l1, .int l2, .int (l3 + 1), .int r3]) (v := l3 + 1) dX0_leastRoot_73 rfl rfl (Nat.le_of_ble_eq_true rfl) rfl ?_
          refine w_goto (tgt := 4) dX0_leastRoot_76 rfl ?_
          exact w_drop (l' := [.ref l0, .int l1, .int l2, .int (l3 + 1), .null]) ⟨Or.inr rfl, Or.inr rfl, Or.inr rfl, Or.inr rfl, Or.inl rfl, trivial⟩ w
        · rw [if_neg c] at w
          refine w_iload dX0_leastRoot_70 rfl ?_
          refine v_istore_n (l' := [.ref l0, .int l1, .int r3, .int l3, .int r3]) dX0_leastRoot_72 (Nat.le_of_ble_eq_true rfl) rfl ?_
          refine v_iinc (l' := [.ref l0, .int l1, .int r3, .int (l3 + 1), .int r3]) (v := l3 + 1) dX0_leastRoot_73 rfl rfl (Nat.le_of_ble_eq_true rfl) rfl ?_
          refine w_goto (tgt := 4) dX0_leastRoot_76 rfl ?_
          exact w_drop (l' := [.ref l0, .int l1, .int r3, .int (l3 + 1), .null]) ⟨Or.inr rfl, Or.inr rfl, Or.inr rfl, Or.inr rfl, Or.inl rfl, trivial⟩ w
set_option maxRecDepth 20000 in
set_option maxHeartbeats 4000000 in
theorem x_X0_rootOver {G : pm_G} {d : Nat} {post : pm_PT} {h : pm_H} {l0 : Nat} {l1 : Int32} (w :
    Wp G (m_X0_rootOver, d + 1, 0, 0, post) (0, 0) 4 [.ref l0, .null, .int l1, .int 0] [] h) :
    Wp G (m_X0_rootOver, d + 1, 0, 0, post) (0, 0) 0 [.ref l0, .int l1, .null, .null] [] h := by
  refine w_iload_n dX0_rootOver_0 rfl ?_
  refine v_istore_n (l' := [.ref l0, .int l1, .int l1, .null]) dX0_rootOver_1 (Nat.le_of_ble_eq_true rfl) rfl ?_
  refine w_iconst (v := 0) dX0_rootOver_2 rfl ?_
  refine v_istore_n (l' := [.ref l0, .int l1, .int l1, .int 0]) dX0_rootOver_3 (Nat.le_of_ble_eq_true rfl) rfl ?_
  exact w_drop (l' := [.ref l0, .null, .int l1, .int 0]) ⟨Or.inr rfl, Or.inl rfl, Or.inr rfl, Or.inr rfl, trivial⟩ w
set_option maxRecDepth 20000 in
set_option maxHeartbeats 4000000 in
theorem x_X0_rootOver_4 {G : pm_G} {d : Nat} {post : pm_PT} {h : pm_H} {l0 : Nat} {l2 : Int32} {l3 : Int32} (w :
    if 24 ≤ l3 then (
      post (some (.int l2)) h
    ) else (
      (h.1[l0]? = some (0, 0)) ∧
      (h.1[gp h l0 9]? = some (0, 6)) ∧
      ci G d m_X6_at [.ref (gp h l0 9), .int l2] h fun r1 h2 =>
      if r1 = (-1) then (
        post (some (.int l2)) h2
      ) else (
        (h2.1[l0]? = some (0, 0)) ∧
        (h2.1[gp h2 l0 9]? = some (0, 6)) ∧
        ci G d m_X6_at [.ref (gp h2 l0 9), .int l2] h2 fun r3 h4 =>
        Wp G (m_X0_rootOver, d + 1, 0, 0, post) (0, 0) 4 [.ref l0, .null, .int r3, .int (l3 + 1)] [] h4
      )
    )) :
    Wp G (m_X0_rootOver, d + 1, 0, 0, post) (0, 0) 4 [.ref l0, .null, .int l2, .int l3] [] h := by
  refine w_iload_n dX0_rootOver_4 rfl ?_
  refine w_bipush (v := 24) dX0_rootOver_5 rfl ?_
  refine w_ic_ge (tgt := 37) dX0_rootOver_7 rfl (fun c => ?_) (fun c => ?_)
  · rw [if_pos c] at w
    refine w_iload_n dX0_rootOver_37 rfl ?_
    exact w_ireturn dX0_rootOver_38 rfl rfl ⟨Nat.le_refl _, Nat.le_refl _⟩ w
  · rw [if_neg c] at w
    refine w_aload_n dX0_rootOver_10 rfl ?_
    obtain ⟨e1, w⟩ := w
    refine w_getp dX0_rootOver_11 lk_RX0_41 e1 rfl ?_
    refine w_iload_n dX0_rootOver_14 rfl ?_
    obtain ⟨e2, w⟩ := w
    refine w_callV (As := [.int l2]) (st := []) dX0_rootOver_15 mt_X6_at g_797 g_724 g_725 rfl e2 rfl rfl (Nat.le_of_ble_eq_true rfl) (Nat.le_refl _) ⟨Nat.le_refl _, Nat.le_refl _⟩ w ?_
    rintro v h2 ⟨r1, rfl, w⟩
    refine w_iconst (v := (-1)) dX0_rootOver_18 rfl ?_
    refine w_ic_eq (tgt := 37) dX0_rootOver_19 rfl (fun c => ?_) (fun c => ?_)
    · rw [if_pos c] at w
      refine w_iload_n dX0_rootOver_37 rfl ?_
      exact w_ireturn dX0_rootOver_38 rfl rfl ⟨Nat.le_refl _, Nat.le_refl _⟩ w
    · rw [if_neg c] at w
      refine w_aload_n dX0_rootOver_22 rfl ?_
      obtain ⟨e1, w⟩ := w
      refine w_getp dX0_rootOver_23 lk_RX0_41 e1 rfl ?_
      refine w_iload_n dX0_rootOver_26 rfl ?_
      obtain ⟨e2, w⟩ := w
      refine w_callV (As := [.int l2]) (st := []) dX0_rootOver_27 mt_X6_at g_797 g_724 g_725 rfl e2 rfl rfl (Nat.le_of_ble_eq_true rfl) (Nat.le_refl _) ⟨Nat.le_refl _, Nat.le_refl _⟩ w ?_
      rintro v h4 ⟨r3, rfl, w⟩
      refine v_istore_n (l' := [.ref l0, .null, .int r3, .int l3]) dX0_rootOver_30 (Nat.le_of_ble_eq_true rfl) rfl ?_
      refine v_iinc (l' := [.ref l0, .null, .int r3, .int (l3 + 1)]) (v := l3 + 1) dX0_rootOver_31 rfl rfl (Nat.le_of_ble_eq_true rfl) rfl ?_
      refine w_goto (tgt := 4) dX0_rootOver_34 rfl ?_
      exact w
set_option maxRecDepth 20000 in
set_option maxHeartbeats 4000000 in
theorem x_X0_depthOf {G : pm_G} {d : Nat} {post : pm_PT} {h : pm_H} {l0 : Nat} {l1 : Int32} (w :
    (h.1[l0]? = some (0, 0)) ∧
    (h.1[gp h l0 9]? = some (0, 6)) ∧
    ci G d m_X6_at [.ref (gp h l0 9), .int l1] h fun r1 h2 =>
    Wp G (m_X0_depthOf, d + 1, 0, 0, post) (0, 0) 11 [.ref l0, .null, .int 0, .int r1] [] h2) :
    Wp G (m_X0_depthOf, d + 1, 0, 0, post) (0, 0) 0 [.ref l0, .int l1, .null, .null] [] h := by
  refine w_iconst (v := 0) dX0_depthOf_0 rfl ?_
  refine v_istore_n (l' := [.ref l0, .int l1, .int 0, .null]) dX0_depthOf_1 (Nat.le_of_ble_eq_true rfl) rfl ?_
  refine w_aload_n dX0_depthOf_2 rfl ?_
  obtain ⟨e1, w⟩ := w
  refine w_getp dX0_depthOf_3 lk_RX0_41 e1 rfl ?_
  refine w_iload_n dX0_depthOf_6 rfl ?_
  obtain ⟨e2, w⟩ := w
  refine w_callV (As := [.int l1]) (st := []) dX0_depthOf_7 mt_X6_at g_797 g_724 g_725 rfl e2 rfl rfl (Nat.le_of_ble_eq_true rfl) (Nat.le_refl _) ⟨Nat.le_refl _, Nat.le_refl _⟩ w ?_
  rintro v h2 ⟨r1, rfl, w⟩
  refine v_istore_n (l' := [.ref l0, .int l1, .int 0, .int r1]) dX0_depthOf_10 (Nat.le_of_ble_eq_true rfl) rfl ?_
  exact w_drop (l' := [.ref l0, .null, .int 0, .int r1]) ⟨Or.inr rfl, Or.inl rfl, Or.inr rfl, Or.inr rfl, trivial⟩ w
set_option maxRecDepth 20000 in
set_option maxHeartbeats 4000000 in
theorem x_X0_depthOf_11 {G : pm_G} {d : Nat} {post : pm_PT} {h : pm_H} {l0 : Nat} {l2 : Int32} {l3 : Int32} (w :
    if 24 ≤ l2 then (
      post (some (.int l2)) h
    ) else (
      if l3 = (-1) then (
        post (some (.int l2)) h
      ) else (
        (h.1[l0]? = some (0, 0)) ∧
        (h.1[gp h l0 9]? = some (0, 6)) ∧
        ci G d m_X6_at [.ref (gp h l0 9), .int l3] h fun r1 h2 =>
        Wp G (m_X0_depthOf, d + 1, 0, 0, post) (0, 0) 11 [.ref l0, .null, .int (l2 + 1), .int r1] [] h2
      )
    )) :
    Wp G (m_X0_depthOf, d + 1, 0, 0, post) (0, 0) 11 [.ref l0, .null, .int l2, .int l3] [] h := by
  refine w_iload_n dX0_depthOf_11 rfl ?_
  refine w_bipush (v := 24) dX0_depthOf_12 rfl ?_
  refine w_ic_ge (tgt := 37) dX0_depthOf_14 rfl (fun c => ?_) (fun c => ?_)
  · rw [if_pos c] at w
    refine w_iload_n dX0_depthOf_37 rfl ?_
    exact w_ireturn dX0_depthOf_38 rfl rfl ⟨Nat.le_refl _, Nat.le_refl _⟩ w
  · rw [if_neg c] at w
    refine w_iload_n dX0_depthOf_17 rfl ?_
    refine w_iconst (v := (-1)) dX0_depthOf_18 rfl ?_
    refine w_ic_eq (tgt := 37) dX0_depthOf_19 rfl (fun c => ?_) (fun c => ?_)
    · rw [if_pos c] at w
      refine w_iload_n dX0_depthOf_37 rfl ?_
      exact w_ireturn dX0_depthOf_38 rfl rfl ⟨Nat.le_refl _, Nat.le_refl _⟩ w
    · rw [if_neg c] at w
      refine v_iinc (l' := [.ref l0, .null, .int (l2 + 1), .int l3]) (v := l2 + 1) dX0_depthOf_22 rfl rfl (Nat.le_of_ble_eq_true rfl) rfl ?_
      refine w_aload_n dX0_depthOf_25 rfl ?_
      obtain ⟨e1, w⟩ := w
      refine w_getp dX0_depthOf_26 lk_RX0_41 e1 rfl ?_
      refine w_iload_n dX0_depthOf_29 rfl ?_
      obtain ⟨e2, w⟩ := w
      refine w_callV (As := [.int l3]) (st := []) dX0_depthOf_30 mt_X6_at g_797 g_724 g_725 rfl e2 rfl rfl (Nat.le_of_ble_eq_true rfl) (Nat.le_refl _) ⟨Nat.le_refl _, Nat.le_refl _⟩ w ?_
      rintro v h2 ⟨r1, rfl, w⟩
      refine v_istore_n (l' := [.ref l0, .null, .int (l2 + 1), .int r1]) dX0_depthOf_33 (Nat.le_of_ble_eq_true rfl) rfl ?_
      refine w_goto (tgt := 11) dX0_depthOf_34 rfl ?_
      exact w
set_option maxRecDepth 20000 in
set_option maxHeartbeats 4000000 in
theorem x_X0_treeAt {G : pm_G} {d : Nat} {post : pm_PT} {h : pm_H} {l0 : Nat} {l1 : Int32} {l2 : Int32} (w :
    Wp G (m_X0_treeAt, d + 1, 0, 0, post) (0, 0) 5 [.ref l0, .int l1, .null, .int l2, .int 0, .null] [] h) :
    Wp G (m_X0_treeAt, d + 1, 0, 0, post) (0, 0) 0 [.ref l0, .int l1, .int l2, .null, .null, .null] [] h := by
  refine w_iload_n dX0_treeAt_0 rfl ?_
  refine v_istore_n (l' := [.ref l0, .int l1, .int l2, .int l2, .null, .null]) dX0_treeAt_1 (Nat.le_of_ble_eq_true rfl) rfl ?_
  refine w_iconst (v := 0) dX0_treeAt_2 rfl ?_
  refine v_istore (l' := [.ref l0, .int l1, .int l2, .int l2, .int 0, .null]) dX0_treeAt_3 (Nat.le_of_ble_eq_true rfl) rfl ?_
  exact w_drop (l' := [.ref l0, .int l1, .null, .int l2, .int 0, .null]) ⟨Or.inr rfl, Or.inr rfl, Or.inl rfl, Or.inr rfl, Or.inr rfl, Or.inl rfl, trivial⟩ w
set_option maxRecDepth 20000 in
set_option maxHeartbeats 4000000 in
theorem x_X0_treeAt_5 {G : pm_G} {d : Nat} {post : pm_PT} {h : pm_H} {l0 : Nat} {l1 : Int32} {l3 : Int32} {l4 : Int32} (w :
    if 24 ≤ l4 then (
      post (some (.int (-1))) h
    ) else (
      (h.1[l0]? = some (0, 0)) ∧
      ci G d m_X0_slot [.int l1, .int l4] h fun r1 h2 =>
      (h2.1[gp h l0 10]? = some (0, 6)) ∧
      ci G d m_X6_at [.ref (gp h l0 10), .int r1] h2 fun r3 h4 =>
      if r3 = (-1) then (
        if r3 = (-1) then (
          Wp G (m_X0_treeAt, d + 1, 0, 0, post) (0, 0) 5 [.ref l0, .int l1, .null, .int (l3 - 0), .int (l4 + 1), .null] [] h4
        ) else (
          Wp G (m_X0_treeAt, d + 1, 0, 0, post) (0, 0) 5 [.ref l0, .int l1, .null, .int (l3 - 1), .int (l4 + 1), .null] [] h4
        )
      ) else (
        if l3 = 0 then (
          post (some (.int r3)) h4
        ) else (
          if r3 = (-1) then (
            Wp G (m_X0_treeAt, d + 1, 0, 0, post) (0, 0) 5 [.ref l0, .int l1, .null, .int (l3 - 0), .int (l4 + 1), .null] [] h4
          ) else (
            Wp G (m_X0_treeAt, d + 1, 0, 0, post) (0, 0) 5 [.ref l0, .int l1, .null, .int (l3 - 1), .int (l4 + 1), .null] [] h4
          )
        )
      )
    )) :
    Wp G (m_X0_treeAt, d + 1, 0, 0, post) (0, 0) 5 [.ref l0, .int l1, .null, .int l3, .int l4, .null] [] h := by
  refine w_iload dX0_treeAt_5 rfl ?_
  refine w_bipush (v := 24) dX0_treeAt_7 rfl ?_
  refine w_ic_ge (tgt := 60) dX0_treeAt_9 rfl (fun c => ?_) (fun c => ?_)
  · rw [if_pos c] at w
    refine w_iconst (v := (-1)) dX0_treeAt_60 rfl ?_
    exact w_ireturn dX0_treeAt_61 rfl rfl ⟨Nat.le_refl _, Nat.le_refl _⟩ w
  · rw [if_neg c] at w
    refine w_aload_n dX0_treeAt_12 rfl ?_
    obtain ⟨e1, w⟩ := w
    refine w_getp dX0_treeAt_13 lk_RX0_44 e1 rfl ?_
    refine w_iload_n dX0_treeAt_16 rfl ?_
    refine w_iload dX0_treeAt_17 rfl ?_
    refine w_callS (As := [.int l1, .int l4]) (st := [.ref (gp h l0 10)]) dX0_treeAt_19 mt_X0_slot g_815 g_816 rfl rfl (Nat.le_of_ble_eq_true rfl) (Nat.le_refl _) ⟨Nat.le_refl _, Nat.le_refl _⟩ w ?_
    rintro v h2 ⟨r1, rfl, w⟩
    obtain ⟨e1, w⟩ := w
    refine w_callV (As := [.int r1]) (st := []) dX0_treeAt_22 mt_X6_at g_797 g_724 g_725 rfl e1 rfl rfl (Nat.le_of_ble_eq_true rfl) (Nat.le_refl _) ⟨Nat.le_refl _, Nat.le_refl _⟩ w ?_
    rintro v h4 ⟨r3, rfl, w⟩
    refine v_istore (l' := [.ref l0, .int l1, .null, .int l3, .int l4, .int r3]) dX0_treeAt_25 (Nat.le_of_ble_eq_true rfl) rfl ?_
    refine w_iload dX0_treeAt_27 rfl ?_
    refine w_iconst (v := (-1)) dX0_treeAt_29 rfl ?_
    refine w_ic_eq (tgt := 40) dX0_treeAt_30 rfl (fun c => ?_) (fun c => ?_)
    · rw [if_pos c] at w
      refine w_iload_n dX0_treeAt_40 rfl ?_
      refine w_iload dX0_treeAt_41 rfl ?_
      refine w_iconst (v := (-1)) dX0_treeAt_43 rfl ?_
      refine w_ic_eq (tgt := 51) dX0_treeAt_44 rfl (fun c => ?_) (fun c => ?_)
      · rw [if_pos c] at w
        refine w_iconst (v := 0) dX0_treeAt_51 rfl ?_
        refine w_isub dX0_treeAt_52 ?_
        refine v_istore_n (l' := [.ref l0, .int l1, .null, .int (l3 - 0), .int l4, .int r3]) dX0_treeAt_53 (Nat.le_of_ble_eq_true rfl) rfl ?_
        refine v_iinc (l' := [.ref l0, .int l1, .null, .int (l3 - 0), .int (l4 + 1), .int r3]) (v := l4 + 1) dX0_treeAt_54 rfl rfl (Nat.le_of_ble_eq_true rfl) rfl ?_
        refine w_goto (tgt := 5) dX0_treeAt_57 rfl ?_
        exact w_drop (l' := [.ref l0, .int l1, .null, .int (l3 - 0), .int (l4 + 1), .null]) ⟨Or.inr rfl, Or.inr rfl, Or.inl rfl, Or.inr rfl, Or.inr rfl, Or.inl rfl, trivial⟩ w
      · rw [if_neg c] at w
        refine w_iconst (v := 1) dX0_treeAt_47 rfl ?_
        refine w_goto (tgt := 52) dX0_treeAt_48 rfl ?_
        refine w_isub dX0_treeAt_52 ?_
        refine v_istore_n (l' := [.ref l0, .int l1, .null, .int (l3 - 1), .int l4, .int r3]) dX0_treeAt_53 (Nat.le_of_ble_eq_true rfl) rfl ?_
        refine v_iinc (l' := [.ref l0, .int l1, .null, .int (l3 - 1), .int (l4 + 1), .int r3]) (v := l4 + 1) dX0_treeAt_54 rfl rfl (Nat.le_of_ble_eq_true rfl) rfl ?_
        refine w_goto (tgt := 5) dX0_treeAt_57 rfl ?_
        exact w_drop (l' := [.ref l0, .int l1, .null, .int (l3 - 1), .int (l4 + 1), .null]) ⟨Or.inr rfl, Or.inr rfl, Or.inl rfl, Or.inr rfl, Or.inr rfl, Or.inl rfl, trivial⟩ w
    · rw [if_neg c] at w
      refine w_iload_n dX0_treeAt_33 rfl ?_
      refine w_if_ne (tgt := 40) dX0_treeAt_34 rfl (fun c => ?_) (fun c => ?_)
      · rw [if_neg c] at w
        refine w_iload_n dX0_treeAt_40 rfl ?_
        refine w_iload dX0_treeAt_41 rfl ?_
        refine w_iconst (v := (-1)) dX0_treeAt_43 rfl ?_
        refine w_ic_eq (tgt := 51) dX0_treeAt_44 rfl (fun c => ?_) (fun c => ?_)
        · rw [if_pos c] at w
          refine w_iconst (v := 0) dX0_treeAt_51 rfl ?_
          refine w_isub dX0_treeAt_52 ?_
          refine v_istore_n (l' := [.ref l0, .int l1, .null, .int (l3 - 0), .int l4, .int r3]) dX0_treeAt_53 (Nat.le_of_ble_eq_true rfl) rfl ?_
          refine v_iinc (l' := [.ref l0, .int l1, .null, .int (l3 - 0), .int (l4 + 1), .int r3]) (v := l4 + 1) dX0_treeAt_54 rfl rfl (Nat.le_of_ble_eq_true rfl) rfl ?_
          refine w_goto (tgt := 5) dX0_treeAt_57 rfl ?_
          exact w_drop (l' := [.ref l0, .int l1, .null, .int (l3 - 0), .int (l4 + 1), .null]) ⟨Or.inr rfl, Or.inr rfl, Or.inl rfl, Or.inr rfl, Or.inr rfl, Or.inl rfl, trivial⟩ w
        · rw [if_neg c] at w
          refine w_iconst (v := 1) dX0_treeAt_47 rfl ?_
          refine w_goto (tgt := 52) dX0_treeAt_48 rfl ?_
          refine w_isub dX0_treeAt_52 ?_
          refine v_istore_n (l' := [.ref l0, .int l1, .null, .int (l3 - 1), .int l4, .int r3]) dX0_treeAt_53 (Nat.le_of_ble_eq_true rfl) rfl ?_
          refine v_iinc (l' := [.ref l0, .int l1, .null, .int (l3 - 1), .int (l4 + 1), .int r3]) (v := l4 + 1) dX0_treeAt_54 rfl rfl (Nat.le_of_ble_eq_true rfl) rfl ?_
          refine w_goto (tgt := 5) dX0_treeAt_57 rfl ?_
          exact w_drop (l' := [.ref l0, .int l1, .null, .int (l3 - 1), .int (l4 + 1), .null]) ⟨Or.inr rfl, Or.inr rfl, Or.inl rfl, Or.inr rfl, Or.inr rfl, Or.inl rfl, trivial⟩ w
      · rw [if_pos c] at w
        refine w_iload dX0_treeAt_37 rfl ?_
        exact w_ireturn dX0_treeAt_39 rfl rfl ⟨Nat.le_refl _, Nat.le_refl _⟩ w
set_option maxRecDepth 20000 in
set_option maxHeartbeats 4000000 in
theorem x_X0_treesIn {G : pm_G} {d : Nat} {post : pm_PT} {h : pm_H} {l0 : Nat} {l1 : Int32} (w :
    Wp G (m_X0_treesIn, d + 1, 0, 0, post) (0, 0) 4 [.ref l0, .int l1, .int 0, .int 0] [] h) :
    Wp G (m_X0_treesIn, d + 1, 0, 0, post) (0, 0) 0 [.ref l0, .int l1, .null, .null] [] h := by
  refine w_iconst (v := 0) dX0_treesIn_0 rfl ?_
  refine v_istore_n (l' := [.ref l0, .int l1, .int 0, .null]) dX0_treesIn_1 (Nat.le_of_ble_eq_true rfl) rfl ?_
  refine w_iconst (v := 0) dX0_treesIn_2 rfl ?_
  refine v_istore_n (l' := [.ref l0, .int l1, .int 0, .int 0]) dX0_treesIn_3 (Nat.le_of_ble_eq_true rfl) rfl ?_
  exact w
set_option maxRecDepth 20000 in
set_option maxHeartbeats 4000000 in
theorem x_X0_treesIn_4 {G : pm_G} {d : Nat} {post : pm_PT} {h : pm_H} {l0 : Nat} {l1 : Int32} {l2 : Int32} {l3 : Int32} (w :
    if 24 ≤ l3 then (
      post (some (.int l2)) h
    ) else (
      (h.1[l0]? = some (0, 0)) ∧
      ci G d m_X0_slot [.int l1, .int l3] h fun r1 h2 =>
      (h2.1[gp h l0 10]? = some (0, 6)) ∧
      ci G d m_X6_at [.ref (gp h l0 10), .int r1] h2 fun r3 h4 =>
      if r3 = (-1) then (
        Wp G (m_X0_treesIn, d + 1, 0, 0, post) (0, 0) 4 [.ref l0, .int l1, .int (l2 + 0), .int (l3 + 1)] [] h4
      ) else (
        Wp G (m_X0_treesIn, d + 1, 0, 0, post) (0, 0) 4 [.ref l0, .int l1, .int (l2 + 1), .int (l3 + 1)] [] h4
      )
    )) :
    Wp G (m_X0_treesIn, d + 1, 0, 0, post) (0, 0) 4 [.ref l0, .int l1, .int l2, .int l3] [] h := by
  refine w_iload_n dX0_treesIn_4 rfl ?_
  refine w_bipush (v := 24) dX0_treesIn_5 rfl ?_
  refine w_ic_ge (tgt := 40) dX0_treesIn_7 rfl (fun c => ?_) (fun c => ?_)
  · rw [if_pos c] at w
    refine w_iload_n dX0_treesIn_40 rfl ?_
    exact w_ireturn dX0_treesIn_41 rfl rfl ⟨Nat.le_refl _, Nat.le_refl _⟩ w
  · rw [if_neg c] at w
    refine w_iload_n dX0_treesIn_10 rfl ?_
    refine w_aload_n dX0_treesIn_11 rfl ?_
    obtain ⟨e1, w⟩ := w
    refine w_getp dX0_treesIn_12 lk_RX0_44 e1 rfl ?_
    refine w_iload_n dX0_treesIn_15 rfl ?_
    refine w_iload_n dX0_treesIn_16 rfl ?_
    refine w_callS (As := [.int l1, .int l3]) (st := [.ref (gp h l0 10), .int l2]) dX0_treesIn_17 mt_X0_slot g_815 g_816 rfl rfl (Nat.le_of_ble_eq_true rfl) (Nat.le_refl _) ⟨Nat.le_refl _, Nat.le_refl _⟩ w ?_
    rintro v h2 ⟨r1, rfl, w⟩
    obtain ⟨e1, w⟩ := w
    refine w_callV (As := [.int r1]) (st := [.int l2]) dX0_treesIn_20 mt_X6_at g_797 g_724 g_725 rfl e1 rfl rfl (Nat.le_of_ble_eq_true rfl) (Nat.le_refl _) ⟨Nat.le_refl _, Nat.le_refl _⟩ w ?_
    rintro v h4 ⟨r3, rfl, w⟩
    refine w_iconst (v := (-1)) dX0_treesIn_23 rfl ?_
    refine w_ic_eq (tgt := 31) dX0_treesIn_24 rfl (fun c => ?_) (fun c => ?_)
    · rw [if_pos c] at w
      refine w_iconst (v := 0) dX0_treesIn_31 rfl ?_
      refine w_iadd dX0_treesIn_32 ?_
      refine v_istore_n (l' := [.ref l0, .int l1, .int (l2 + 0), .int l3]) dX0_treesIn_33 (Nat.le_of_ble_eq_true rfl) rfl ?_
      refine v_iinc (l' := [.ref l0, .int l1, .int (l2 + 0), .int (l3 + 1)]) (v := l3 + 1) dX0_treesIn_34 rfl rfl (Nat.le_of_ble_eq_true rfl) rfl ?_
      refine w_goto (tgt := 4) dX0_treesIn_37 rfl ?_
      exact w
    · rw [if_neg c] at w
      refine w_iconst (v := 1) dX0_treesIn_27 rfl ?_
      refine w_goto (tgt := 32) dX0_treesIn_28 rfl ?_
      refine w_iadd dX0_treesIn_32 ?_
      refine v_istore_n (l' := [.ref l0, .int l1, .int (l2 + 1), .int l3]) dX0_treesIn_33 (Nat.le_of_ble_eq_true rfl) rfl ?_
      refine v_iinc (l' := [.ref l0, .int l1, .int (l2 + 1), .int (l3 + 1)]) (v := l3 + 1) dX0_treesIn_34 rfl rfl (Nat.le_of_ble_eq_true rfl) rfl ?_
      refine w_goto (tgt := 4) dX0_treesIn_37 rfl ?_
      exact w
set_option maxRecDepth 20000 in
set_option maxHeartbeats 4000000 in
theorem x_X0_greatestRank {G : pm_G} {d : Nat} {post : pm_PT} {h : pm_H} {l0 : Nat} {l1 : Int32} (w :
    Wp G (m_X0_greatestRank, d + 1, 0, 0, post) (0, 0) 4 [.ref l0, .int l1, .int (-1), .int 0] [] h) :
    Wp G (m_X0_greatestRank, d + 1, 0, 0, post) (0, 0) 0 [.ref l0, .int l1, .null, .null] [] h := by
  refine w_iconst (v := (-1)) dX0_greatestRank_0 rfl ?_
  refine v_istore_n (l' := [.ref l0, .int l1, .int (-1), .null]) dX0_greatestRank_1 (Nat.le_of_ble_eq_true rfl) rfl ?_
  refine w_iconst (v := 0) dX0_greatestRank_2 rfl ?_
  refine v_istore_n (l' := [.ref l0, .int l1, .int (-1), .int 0]) dX0_greatestRank_3 (Nat.le_of_ble_eq_true rfl) rfl ?_
  exact w
set_option maxRecDepth 20000 in
set_option maxHeartbeats 4000000 in
theorem x_X0_greatestRank_4 {G : pm_G} {d : Nat} {post : pm_PT} {h : pm_H} {l0 : Nat} {l1 : Int32} {l2 : Int32} {l3 : Int32} (w :
    if 24 ≤ l3 then (
      post (some (.int l2)) h
    ) else (
      (h.1[l0]? = some (0, 0)) ∧
      ci G d m_X0_slot [.int l1, .int l3] h fun r1 h2 =>
      (h2.1[gp h l0 10]? = some (0, 6)) ∧
      ci G d m_X6_at [.ref (gp h l0 10), .int r1] h2 fun r3 h4 =>
      if r3 = (-1) then (
        Wp G (m_X0_greatestRank, d + 1, 0, 0, post) (0, 0) 4 [.ref l0, .int l1, .int l2, .int (l3 + 1)] [] h4
      ) else (
        Wp G (m_X0_greatestRank, d + 1, 0, 0, post) (0, 0) 4 [.ref l0, .int l1, .int l3, .int (l3 + 1)] [] h4
      )
    )) :
    Wp G (m_X0_greatestRank, d + 1, 0, 0, post) (0, 0) 4 [.ref l0, .int l1, .int l2, .int l3] [] h := by
  refine w_iload_n dX0_greatestRank_4 rfl ?_
  refine w_bipush (v := 24) dX0_greatestRank_5 rfl ?_
  refine w_ic_ge (tgt := 38) dX0_greatestRank_7 rfl (fun c => ?_) (fun c => ?_)
  · rw [if_pos c] at w
    refine w_iload_n dX0_greatestRank_38 rfl ?_
    exact w_ireturn dX0_greatestRank_39 rfl rfl ⟨Nat.le_refl _, Nat.le_refl _⟩ w
  · rw [if_neg c] at w
    refine w_aload_n dX0_greatestRank_10 rfl ?_
    obtain ⟨e1, w⟩ := w
    refine w_getp dX0_greatestRank_11 lk_RX0_44 e1 rfl ?_
    refine w_iload_n dX0_greatestRank_14 rfl ?_
    refine w_iload_n dX0_greatestRank_15 rfl ?_
    refine w_callS (As := [.int l1, .int l3]) (st := [.ref (gp h l0 10)]) dX0_greatestRank_16 mt_X0_slot g_815 g_816 rfl rfl (Nat.le_of_ble_eq_true rfl) (Nat.le_refl _) ⟨Nat.le_refl _, Nat.le_refl _⟩ w ?_
    rintro v h2 ⟨r1, rfl, w⟩
    obtain ⟨e1, w⟩ := w
    refine w_callV (As := [.int r1]) (st := []) dX0_greatestRank_19 mt_X6_at g_797 g_724 g_725 rfl e1 rfl rfl (Nat.le_of_ble_eq_true rfl) (Nat.le_refl _) ⟨Nat.le_refl _, Nat.le_refl _⟩ w ?_
    rintro v h4 ⟨r3, rfl, w⟩
    refine w_iconst (v := (-1)) dX0_greatestRank_22 rfl ?_
    refine w_ic_eq (tgt := 30) dX0_greatestRank_23 rfl (fun c => ?_) (fun c => ?_)
    · rw [if_pos c] at w
      refine w_iload_n dX0_greatestRank_30 rfl ?_
      refine v_istore_n (l' := [.ref l0, .int l1, .int l2, .int l3]) dX0_greatestRank_31 (Nat.le_of_ble_eq_true rfl) rfl ?_
      refine v_iinc (l' := [.ref l0, .int l1, .int l2, .int (l3 + 1)]) (v := l3 + 1) dX0_greatestRank_32 rfl rfl (Nat.le_of_ble_eq_true rfl) rfl ?_
      refine w_goto (tgt := 4) dX0_greatestRank_35 rfl ?_
      exact w
    · rw [if_neg c] at w
      refine w_iload_n dX0_greatestRank_26 rfl ?_
      refine w_goto (tgt := 31) dX0_greatestRank_27 rfl ?_
      refine v_istore_n (l' := [.ref l0, .int l1, .int l3, .int l3]) dX0_greatestRank_31 (Nat.le_of_ble_eq_true rfl) rfl ?_
      refine v_iinc (l' := [.ref l0, .int l1, .int l3, .int (l3 + 1)]) (v := l3 + 1) dX0_greatestRank_32 rfl rfl (Nat.le_of_ble_eq_true rfl) rfl ?_
      refine w_goto (tgt := 4) dX0_greatestRank_35 rfl ?_
      exact w
set_option maxRecDepth 20000 in
set_option maxHeartbeats 4000000 in
theorem x_X0_nodesUnder {G : pm_G} {d : Nat} {post : pm_PT} {h : pm_H} {l0 : Nat} {l1 : Int32} (w :
    Wp G (m_X0_nodesUnder, d + 1, 0, 0, post) (0, 0) 4 [.ref l0, .int l1, .int 0, .int 0] [] h) :
    Wp G (m_X0_nodesUnder, d + 1, 0, 0, post) (0, 0) 0 [.ref l0, .int l1, .null, .null] [] h := by
  refine w_iconst (v := 0) dX0_nodesUnder_0 rfl ?_
  refine v_istore_n (l' := [.ref l0, .int l1, .int 0, .null]) dX0_nodesUnder_1 (Nat.le_of_ble_eq_true rfl) rfl ?_
  refine w_iconst (v := 0) dX0_nodesUnder_2 rfl ?_
  refine v_istore_n (l' := [.ref l0, .int l1, .int 0, .int 0]) dX0_nodesUnder_3 (Nat.le_of_ble_eq_true rfl) rfl ?_
  exact w
set_option maxRecDepth 20000 in
set_option maxHeartbeats 4000000 in
theorem x_X0_nodesUnder_4 {G : pm_G} {d : Nat} {post : pm_PT} {h : pm_H} {l0 : Nat} {l1 : Int32} {l2 : Int32} {l3 : Int32} (w :
    if 24 ≤ l3 then (
      post (some (.int l2)) h
    ) else (
      (h.1[l0]? = some (0, 0)) ∧
      (h.1[gp h l0 1]? = some (0, 6)) ∧
      ci G d m_X6_at [.ref (gp h l0 1), .int l3] h fun r1 h2 =>
      if r1 = (-1) then (
        Wp G (m_X0_nodesUnder, d + 1, 0, 0, post) (0, 0) 4 [.ref l0, .int l1, .int (l2 + 0), .int (l3 + 1)] [] h2
      ) else (
        (h2.1[l0]? = some (0, 0)) ∧
        ci G d m_X0_rootOver [.ref l0, .int l3] h2 fun r3 h4 =>
        if r3 = l1 then (
          Wp G (m_X0_nodesUnder, d + 1, 0, 0, post) (0, 0) 4 [.ref l0, .int l1, .int (l2 + 1), .int (l3 + 1)] [] h4
        ) else (
          Wp G (m_X0_nodesUnder, d + 1, 0, 0, post) (0, 0) 4 [.ref l0, .int l1, .int (l2 + 0), .int (l3 + 1)] [] h4
        )
      )
    )) :
    Wp G (m_X0_nodesUnder, d + 1, 0, 0, post) (0, 0) 4 [.ref l0, .int l1, .int l2, .int l3] [] h := by
  refine w_iload_n dX0_nodesUnder_4 rfl ?_
  refine w_bipush (v := 24) dX0_nodesUnder_5 rfl ?_
  refine w_ic_ge (tgt := 45) dX0_nodesUnder_7 rfl (fun c => ?_) (fun c => ?_)
  · rw [if_pos c] at w
    refine w_iload_n dX0_nodesUnder_45 rfl ?_
    exact w_ireturn dX0_nodesUnder_46 rfl rfl ⟨Nat.le_refl _, Nat.le_refl _⟩ w
  · rw [if_neg c] at w
    refine w_iload_n dX0_nodesUnder_10 rfl ?_
    refine w_aload_n dX0_nodesUnder_11 rfl ?_
    obtain ⟨e1, w⟩ := w
    refine w_getp dX0_nodesUnder_12 lk_RX0_16 e1 rfl ?_
    refine w_iload_n dX0_nodesUnder_15 rfl ?_
    obtain ⟨e2, w⟩ := w
    refine w_callV (As := [.int l3]) (st := [.int l2]) dX0_nodesUnder_16 mt_X6_at g_797 g_724 g_725 rfl e2 rfl rfl (Nat.le_of_ble_eq_true rfl) (Nat.le_refl _) ⟨Nat.le_refl _, Nat.le_refl _⟩ w ?_
    rintro v h2 ⟨r1, rfl, w⟩
    refine w_iconst (v := (-1)) dX0_nodesUnder_19 rfl ?_
    refine w_ic_eq (tgt := 36) dX0_nodesUnder_20 rfl (fun c => ?_) (fun c => ?_)
    · rw [if_pos c] at w
      refine w_iconst (v := 0) dX0_nodesUnder_36 rfl ?_
      refine w_iadd dX0_nodesUnder_37 ?_
      refine v_istore_n (l' := [.ref l0, .int l1, .int (l2 + 0), .int l3]) dX0_nodesUnder_38 (Nat.le_of_ble_eq_true rfl) rfl ?_
      refine v_iinc (l' := [.ref l0, .int l1, .int (l2 + 0), .int (l3 + 1)]) (v := l3 + 1) dX0_nodesUnder_39 rfl rfl (Nat.le_of_ble_eq_true rfl) rfl ?_
      refine w_goto (tgt := 4) dX0_nodesUnder_42 rfl ?_
      exact w
    · rw [if_neg c] at w
      refine w_aload_n dX0_nodesUnder_23 rfl ?_
      refine w_iload_n dX0_nodesUnder_24 rfl ?_
      obtain ⟨e1, w⟩ := w
      refine w_callV (As := [.int l3]) (st := [.int l2]) dX0_nodesUnder_25 mt_X0_rootOver g_936 g_938 g_35 rfl e1 rfl rfl (Nat.le_of_ble_eq_true rfl) (Nat.le_refl _) ⟨Nat.le_refl _, Nat.le_refl _⟩ w ?_
      rintro v h4 ⟨r3, rfl, w⟩
      refine w_iload_n dX0_nodesUnder_28 rfl ?_
      refine w_ic_ne (tgt := 36) dX0_nodesUnder_29 rfl (fun c => ?_) (fun c => ?_)
      · rw [if_neg c] at w
        refine w_iconst (v := 0) dX0_nodesUnder_36 rfl ?_
        refine w_iadd dX0_nodesUnder_37 ?_
        refine v_istore_n (l' := [.ref l0, .int l1, .int (l2 + 0), .int l3]) dX0_nodesUnder_38 (Nat.le_of_ble_eq_true rfl) rfl ?_
        refine v_iinc (l' := [.ref l0, .int l1, .int (l2 + 0), .int (l3 + 1)]) (v := l3 + 1) dX0_nodesUnder_39 rfl rfl (Nat.le_of_ble_eq_true rfl) rfl ?_
        refine w_goto (tgt := 4) dX0_nodesUnder_42 rfl ?_
        exact w
      · rw [if_pos c] at w
        refine w_iconst (v := 1) dX0_nodesUnder_32 rfl ?_
        refine w_goto (tgt := 37) dX0_nodesUnder_33 rfl ?_
        refine w_iadd dX0_nodesUnder_37 ?_
        refine v_istore_n (l' := [.ref l0, .int l1, .int (l2 + 1), .int l3]) dX0_nodesUnder_38 (Nat.le_of_ble_eq_true rfl) rfl ?_
        refine v_iinc (l' := [.ref l0, .int l1, .int (l2 + 1), .int (l3 + 1)]) (v := l3 + 1) dX0_nodesUnder_39 rfl rfl (Nat.le_of_ble_eq_true rfl) rfl ?_
        refine w_goto (tgt := 4) dX0_nodesUnder_42 rfl ?_
        exact w
set_option maxRecDepth 20000 in
set_option maxHeartbeats 4000000 in
theorem x_X0_listedAt {G : pm_G} {d : Nat} {post : pm_PT} {h : pm_H} {l0 : Nat} {l1 : Int32} {l2 : Int32} (w :
    if l2 < 0 then (
      post (some (.int (-1))) h
    ) else (
      (h.1[l0]? = some (0, 0)) ∧
      (h.1[gp h l0 6]? = some (0, 6)) ∧
      ci G d m_X6_at [.ref (gp h l0 6), .int l1] h fun r1 h2 =>
      if l2 < r1 then (
        (h2.1[l0]? = some (0, 0)) ∧
        (h2.1[gp h2 l0 4]? = some (0, 6)) ∧
        ci G d m_X6_at [.ref (gp h2 l0 4), .int l1] h2 fun r3 h4 =>
        Wp G (m_X0_listedAt, d + 1, 0, 0, post) (0, 0) 30 [.ref l0, .null, .null, .int r3, .int l2] [] h4
      ) else (
        post (some (.int (-1))) h2
      )
    )) :
    Wp G (m_X0_listedAt, d + 1, 0, 0, post) (0, 0) 0 [.ref l0, .int l1, .int l2, .null, .null] [] h := by
  refine w_iload_n dX0_listedAt_0 rfl ?_
  refine w_if_lt (tgt := 16) dX0_listedAt_1 rfl (fun c => ?_) (fun c => ?_)
  · rw [if_pos c] at w
    refine w_iconst (v := (-1)) dX0_listedAt_16 rfl ?_
    exact w_ireturn dX0_listedAt_17 rfl rfl ⟨Nat.le_refl _, Nat.le_refl _⟩ w
  · rw [if_neg c] at w
    refine w_iload_n dX0_listedAt_4 rfl ?_
    refine w_aload_n dX0_listedAt_5 rfl ?_
    obtain ⟨e1, w⟩ := w
    refine w_getp dX0_listedAt_6 lk_RX0_32 e1 rfl ?_
    refine w_iload_n dX0_listedAt_9 rfl ?_
    obtain ⟨e2, w⟩ := w
    refine w_callV (As := [.int l1]) (st := [.int l2]) dX0_listedAt_10 mt_X6_at g_797 g_724 g_725 rfl e2 rfl rfl (Nat.le_of_ble_eq_true rfl) (Nat.le_refl _) ⟨Nat.le_refl _, Nat.le_refl _⟩ w ?_
    rintro v h2 ⟨r1, rfl, w⟩
    refine w_ic_lt (tgt := 18) dX0_listedAt_13 rfl (fun c => ?_) (fun c => ?_)
    · rw [if_pos c] at w
      refine w_aload_n dX0_listedAt_18 rfl ?_
      obtain ⟨e1, w⟩ := w
      refine w_getp dX0_listedAt_19 lk_RX0_26 e1 rfl ?_
      refine w_iload_n dX0_listedAt_22 rfl ?_
      obtain ⟨e2, w⟩ := w
      refine w_callV (As := [.int l1]) (st := []) dX0_listedAt_23 mt_X6_at g_797 g_724 g_725 rfl e2 rfl rfl (Nat.le_of_ble_eq_true rfl) (Nat.le_refl _) ⟨Nat.le_refl _, Nat.le_refl _⟩ w ?_
      rintro v h4 ⟨r3, rfl, w⟩
      refine v_istore_n (l' := [.ref l0, .int l1, .int l2, .int r3, .null]) dX0_listedAt_26 (Nat.le_of_ble_eq_true rfl) rfl ?_
      refine w_iload_n dX0_listedAt_27 rfl ?_
      refine v_istore (l' := [.ref l0, .int l1, .int l2, .int r3, .int l2]) dX0_listedAt_28 (Nat.le_of_ble_eq_true rfl) rfl ?_
      exact w_drop (l' := [.ref l0, .null, .null, .int r3, .int l2]) ⟨Or.inr rfl, Or.inl rfl, Or.inl rfl, Or.inr rfl, Or.inr rfl, trivial⟩ w
    · rw [if_neg c] at w
      refine w_iconst (v := (-1)) dX0_listedAt_16 rfl ?_
      exact w_ireturn dX0_listedAt_17 rfl rfl ⟨Nat.le_refl _, Nat.le_refl _⟩ w
set_option maxRecDepth 20000 in
set_option maxHeartbeats 4000000 in
theorem x_X0_listedAt_30 {G : pm_G} {d : Nat} {post : pm_PT} {h : pm_H} {l0 : Nat} {l3 : Int32} {l4 : Int32} (w :
    if l4 ≤ 0 then (
      post (some (.int l3)) h
    ) else (
      (h.1[l0]? = some (0, 0)) ∧
      (h.1[gp h l0 11]? = some (0, 6)) ∧
      ci G d m_X6_at [.ref (gp h l0 11), .int l3] h fun r1 h2 =>
      Wp G (m_X0_listedAt, d + 1, 0, 0, post) (0, 0) 30 [.ref l0, .null, .null, .int r1, .int (l4 + (-1))] [] h2
    )) :
    Wp G (m_X0_listedAt, d + 1, 0, 0, post) (0, 0) 30 [.ref l0, .null, .null, .int l3, .int l4] [] h := by
  refine w_iload dX0_listedAt_30 rfl ?_
  refine w_if_le (tgt := 50) dX0_listedAt_32 rfl (fun c => ?_) (fun c => ?_)
  · rw [if_pos c] at w
    refine w_iload_n dX0_listedAt_50 rfl ?_
    exact w_ireturn dX0_listedAt_51 rfl rfl ⟨Nat.le_refl _, Nat.le_refl _⟩ w
  · rw [if_neg c] at w
    refine w_aload_n dX0_listedAt_35 rfl ?_
    obtain ⟨e1, w⟩ := w
    refine w_getp dX0_listedAt_36 lk_RX0_47 e1 rfl ?_
    refine w_iload_n dX0_listedAt_39 rfl ?_
    obtain ⟨e2, w⟩ := w
    refine w_callV (As := [.int l3]) (st := []) dX0_listedAt_40 mt_X6_at g_797 g_724 g_725 rfl e2 rfl rfl (Nat.le_of_ble_eq_true rfl) (Nat.le_refl _) ⟨Nat.le_refl _, Nat.le_refl _⟩ w ?_
    rintro v h2 ⟨r1, rfl, w⟩
    refine v_istore_n (l' := [.ref l0, .null, .null, .int r1, .int l4]) dX0_listedAt_43 (Nat.le_of_ble_eq_true rfl) rfl ?_
    refine v_iinc (l' := [.ref l0, .null, .null, .int r1, .int (l4 + (-1))]) (v := l4 + (-1)) dX0_listedAt_44 rfl rfl (Nat.le_of_ble_eq_true rfl) rfl ?_
    refine w_goto (tgt := 30) dX0_listedAt_47 rfl ?_
    exact w
set_option maxRecDepth 20000 in
set_option maxHeartbeats 4000000 in
theorem x_X0_itemsIn {G : pm_G} {d : Nat} {post : pm_PT} {h : pm_H} {l0 : Nat} {l1 : Int32} (w :
    Wp G (m_X0_itemsIn, d + 1, 0, 0, post) (0, 0) 4 [.ref l0, .int l1, .int 0, .int 0] [] h) :
    Wp G (m_X0_itemsIn, d + 1, 0, 0, post) (0, 0) 0 [.ref l0, .int l1, .null, .null] [] h := by
  refine w_iconst (v := 0) dX0_itemsIn_0 rfl ?_
  refine v_istore_n (l' := [.ref l0, .int l1, .int 0, .null]) dX0_itemsIn_1 (Nat.le_of_ble_eq_true rfl) rfl ?_
  refine w_iconst (v := 0) dX0_itemsIn_2 rfl ?_
  refine v_istore_n (l' := [.ref l0, .int l1, .int 0, .int 0]) dX0_itemsIn_3 (Nat.le_of_ble_eq_true rfl) rfl ?_
  exact w
set_option maxRecDepth 20000 in
set_option maxHeartbeats 4000000 in
theorem x_X0_itemsIn_4 {G : pm_G} {d : Nat} {post : pm_PT} {h : pm_H} {l0 : Nat} {l1 : Int32} {l2 : Int32} {l3 : Int32} (w :
    if 20 ≤ l3 then (
      post (some (.int l2)) h
    ) else (
      (h.1[l0]? = some (0, 0)) ∧
      (h.1[gp h l0 13]? = some (0, 6)) ∧
      ci G d m_X6_at [.ref (gp h l0 13), .int l3] h fun r1 h2 =>
      if r1 = l1 then (
        Wp G (m_X0_itemsIn, d + 1, 0, 0, post) (0, 0) 4 [.ref l0, .int l1, .int (l2 + 1), .int (l3 + 1)] [] h2
      ) else (
        Wp G (m_X0_itemsIn, d + 1, 0, 0, post) (0, 0) 4 [.ref l0, .int l1, .int (l2 + 0), .int (l3 + 1)] [] h2
      )
    )) :
    Wp G (m_X0_itemsIn, d + 1, 0, 0, post) (0, 0) 4 [.ref l0, .int l1, .int l2, .int l3] [] h := by
  refine w_iload_n dX0_itemsIn_4 rfl ?_
  refine w_bipush (v := 20) dX0_itemsIn_5 rfl ?_
  refine w_ic_ge (tgt := 36) dX0_itemsIn_7 rfl (fun c => ?_) (fun c => ?_)
  · rw [if_pos c] at w
    refine w_iload_n dX0_itemsIn_36 rfl ?_
    exact w_ireturn dX0_itemsIn_37 rfl rfl ⟨Nat.le_refl _, Nat.le_refl _⟩ w
  · rw [if_neg c] at w
    refine w_iload_n dX0_itemsIn_10 rfl ?_
    refine w_aload_n dX0_itemsIn_11 rfl ?_
    obtain ⟨e1, w⟩ := w
    refine w_getp dX0_itemsIn_12 lk_RX0_53 e1 rfl ?_
    refine w_iload_n dX0_itemsIn_15 rfl ?_
    obtain ⟨e2, w⟩ := w
    refine w_callV (As := [.int l3]) (st := [.int l2]) dX0_itemsIn_16 mt_X6_at g_797 g_724 g_725 rfl e2 rfl rfl (Nat.le_of_ble_eq_true rfl) (Nat.le_refl _) ⟨Nat.le_refl _, Nat.le_refl _⟩ w ?_
    rintro v h2 ⟨r1, rfl, w⟩
    refine w_iload_n dX0_itemsIn_19 rfl ?_
    refine w_ic_ne (tgt := 27) dX0_itemsIn_20 rfl (fun c => ?_) (fun c => ?_)
    · rw [if_neg c] at w
      refine w_iconst (v := 0) dX0_itemsIn_27 rfl ?_
      refine w_iadd dX0_itemsIn_28 ?_
      refine v_istore_n (l' := [.ref l0, .int l1, .int (l2 + 0), .int l3]) dX0_itemsIn_29 (Nat.le_of_ble_eq_true rfl) rfl ?_
      refine v_iinc (l' := [.ref l0, .int l1, .int (l2 + 0), .int (l3 + 1)]) (v := l3 + 1) dX0_itemsIn_30 rfl rfl (Nat.le_of_ble_eq_true rfl) rfl ?_
      refine w_goto (tgt := 4) dX0_itemsIn_33 rfl ?_
      exact w
    · rw [if_pos c] at w
      refine w_iconst (v := 1) dX0_itemsIn_23 rfl ?_
      refine w_goto (tgt := 28) dX0_itemsIn_24 rfl ?_
      refine w_iadd dX0_itemsIn_28 ?_
      refine v_istore_n (l' := [.ref l0, .int l1, .int (l2 + 1), .int l3]) dX0_itemsIn_29 (Nat.le_of_ble_eq_true rfl) rfl ?_
      refine v_iinc (l' := [.ref l0, .int l1, .int (l2 + 1), .int (l3 + 1)]) (v := l3 + 1) dX0_itemsIn_30 rfl rfl (Nat.le_of_ble_eq_true rfl) rfl ?_
      refine w_goto (tgt := 4) dX0_itemsIn_33 rfl ?_
      exact w
set_option maxRecDepth 20000 in
set_option maxHeartbeats 4000000 in
theorem x_X0_itemsOn {G : pm_G} {d : Nat} {post : pm_PT} {h : pm_H} {l0 : Nat} {l1 : Int32} (w :
    Wp G (m_X0_itemsOn, d + 1, 0, 0, post) (0, 0) 4 [.ref l0, .int l1, .int 0, .int 0] [] h) :
    Wp G (m_X0_itemsOn, d + 1, 0, 0, post) (0, 0) 0 [.ref l0, .int l1, .null, .null] [] h := by
  refine w_iconst (v := 0) dX0_itemsOn_0 rfl ?_
  refine v_istore_n (l' := [.ref l0, .int l1, .int 0, .null]) dX0_itemsOn_1 (Nat.le_of_ble_eq_true rfl) rfl ?_
  refine w_iconst (v := 0) dX0_itemsOn_2 rfl ?_
  refine v_istore_n (l' := [.ref l0, .int l1, .int 0, .int 0]) dX0_itemsOn_3 (Nat.le_of_ble_eq_true rfl) rfl ?_
  exact w
set_option maxRecDepth 20000 in
set_option maxHeartbeats 4000000 in
theorem x_X0_itemsOn_4 {G : pm_G} {d : Nat} {post : pm_PT} {h : pm_H} {l0 : Nat} {l1 : Int32} {l2 : Int32} {l3 : Int32} (w :
    if 20 ≤ l3 then (
      post (some (.int l2)) h
    ) else (
      (h.1[l0]? = some (0, 0)) ∧
      (h.1[gp h l0 14]? = some (0, 6)) ∧
      ci G d m_X6_at [.ref (gp h l0 14), .int l3] h fun r1 h2 =>
      if r1 = l1 then (
        Wp G (m_X0_itemsOn, d + 1, 0, 0, post) (0, 0) 4 [.ref l0, .int l1, .int (l2 + 1), .int (l3 + 1)] [] h2
      ) else (
        Wp G (m_X0_itemsOn, d + 1, 0, 0, post) (0, 0) 4 [.ref l0, .int l1, .int (l2 + 0), .int (l3 + 1)] [] h2
      )
    )) :
    Wp G (m_X0_itemsOn, d + 1, 0, 0, post) (0, 0) 4 [.ref l0, .int l1, .int l2, .int l3] [] h := by
  refine w_iload_n dX0_itemsOn_4 rfl ?_
  refine w_bipush (v := 20) dX0_itemsOn_5 rfl ?_
  refine w_ic_ge (tgt := 36) dX0_itemsOn_7 rfl (fun c => ?_) (fun c => ?_)
  · rw [if_pos c] at w
    refine w_iload_n dX0_itemsOn_36 rfl ?_
    exact w_ireturn dX0_itemsOn_37 rfl rfl ⟨Nat.le_refl _, Nat.le_refl _⟩ w
  · rw [if_neg c] at w
    refine w_iload_n dX0_itemsOn_10 rfl ?_
    refine w_aload_n dX0_itemsOn_11 rfl ?_
    obtain ⟨e1, w⟩ := w
    refine w_getp dX0_itemsOn_12 lk_RX0_56 e1 rfl ?_
    refine w_iload_n dX0_itemsOn_15 rfl ?_
    obtain ⟨e2, w⟩ := w
    refine w_callV (As := [.int l3]) (st := [.int l2]) dX0_itemsOn_16 mt_X6_at g_797 g_724 g_725 rfl e2 rfl rfl (Nat.le_of_ble_eq_true rfl) (Nat.le_refl _) ⟨Nat.le_refl _, Nat.le_refl _⟩ w ?_
    rintro v h2 ⟨r1, rfl, w⟩
    refine w_iload_n dX0_itemsOn_19 rfl ?_
    refine w_ic_ne (tgt := 27) dX0_itemsOn_20 rfl (fun c => ?_) (fun c => ?_)
    · rw [if_neg c] at w
      refine w_iconst (v := 0) dX0_itemsOn_27 rfl ?_
      refine w_iadd dX0_itemsOn_28 ?_
      refine v_istore_n (l' := [.ref l0, .int l1, .int (l2 + 0), .int l3]) dX0_itemsOn_29 (Nat.le_of_ble_eq_true rfl) rfl ?_
      refine v_iinc (l' := [.ref l0, .int l1, .int (l2 + 0), .int (l3 + 1)]) (v := l3 + 1) dX0_itemsOn_30 rfl rfl (Nat.le_of_ble_eq_true rfl) rfl ?_
      refine w_goto (tgt := 4) dX0_itemsOn_33 rfl ?_
      exact w
    · rw [if_pos c] at w
      refine w_iconst (v := 1) dX0_itemsOn_23 rfl ?_
      refine w_goto (tgt := 28) dX0_itemsOn_24 rfl ?_
      refine w_iadd dX0_itemsOn_28 ?_
      refine v_istore_n (l' := [.ref l0, .int l1, .int (l2 + 1), .int l3]) dX0_itemsOn_29 (Nat.le_of_ble_eq_true rfl) rfl ?_
      refine v_iinc (l' := [.ref l0, .int l1, .int (l2 + 1), .int (l3 + 1)]) (v := l3 + 1) dX0_itemsOn_30 rfl rfl (Nat.le_of_ble_eq_true rfl) rfl ?_
      refine w_goto (tgt := 4) dX0_itemsOn_33 rfl ?_
      exact w
set_option maxRecDepth 20000 in
set_option maxHeartbeats 4000000 in
theorem x_X0_itemsOnFloor {G : pm_G} {d : Nat} {post : pm_PT} {h : pm_H} {l0 : Nat} (w :
    Wp G (m_X0_itemsOnFloor, d + 1, 0, 0, post) (0, 0) 4 [.ref l0, .int 0, .int 0] [] h) :
    Wp G (m_X0_itemsOnFloor, d + 1, 0, 0, post) (0, 0) 0 [.ref l0, .null, .null] [] h := by
  refine w_iconst (v := 0) dX0_itemsOnFloor_0 rfl ?_
  refine v_istore_n (l' := [.ref l0, .int 0, .null]) dX0_itemsOnFloor_1 (Nat.le_of_ble_eq_true rfl) rfl ?_
  refine w_iconst (v := 0) dX0_itemsOnFloor_2 rfl ?_
  refine v_istore_n (l' := [.ref l0, .int 0, .int 0]) dX0_itemsOnFloor_3 (Nat.le_of_ble_eq_true rfl) rfl ?_
  exact w
set_option maxRecDepth 20000 in
set_option maxHeartbeats 4000000 in
theorem x_X0_itemsOnFloor_4 {G : pm_G} {d : Nat} {post : pm_PT} {h : pm_H} {l0 : Nat} {l1 : Int32} {l2 : Int32} (w :
    (h.1[l0]? = some (0, 0)) ∧
    (h.1[gp h l0 0]? = some (0, 4)) ∧
    (h.1[gp h (gp h l0 0) 2]? = some (0, 3)) ∧
    if (gi h (gp h (gp h l0 0) 2) 1) ≤ l2 then (
      post (some (.int l1)) h
    ) else (
      (h.1[gp h l0 13]? = some (0, 6)) ∧
      ci G d m_X6_at [.ref (gp h l0 13), .int l2] h fun r1 h2 =>
      if r1 = (-1) then (
        (h2.1[l0]? = some (0, 0)) ∧
        (h2.1[gp h2 l0 14]? = some (0, 6)) ∧
        ci G d m_X6_at [.ref (gp h2 l0 14), .int l2] h2 fun r3 h4 =>
        if r3 = (-1) then (
          Wp G (m_X0_itemsOnFloor, d + 1, 0, 0, post) (0, 0) 4 [.ref l0, .int (l1 + 1), .int (l2 + 1)] [] h4
        ) else (
          Wp G (m_X0_itemsOnFloor, d + 1, 0, 0, post) (0, 0) 4 [.ref l0, .int (l1 + 0), .int (l2 + 1)] [] h4
        )
      ) else (
        Wp G (m_X0_itemsOnFloor, d + 1, 0, 0, post) (0, 0) 4 [.ref l0, .int (l1 + 0), .int (l2 + 1)] [] h2
      )
    )) :
    Wp G (m_X0_itemsOnFloor, d + 1, 0, 0, post) (0, 0) 4 [.ref l0, .int l1, .int l2] [] h := by
  refine w_iload_n dX0_itemsOnFloor_4 rfl ?_
  refine w_aload_n dX0_itemsOnFloor_5 rfl ?_
  obtain ⟨e1, w⟩ := w
  refine w_getp dX0_itemsOnFloor_6 lk_RX0_62 e1 rfl ?_
  obtain ⟨e2, w⟩ := w
  refine w_getp dX0_itemsOnFloor_9 lk_RX0_76 e2 rfl ?_
  obtain ⟨e3, w⟩ := w
  refine w_geti dX0_itemsOnFloor_12 lk_RX0_82 e3 rfl ?_
  refine w_ic_ge (tgt := 56) dX0_itemsOnFloor_15 rfl (fun c => ?_) (fun c => ?_)
  · rw [if_pos c] at w
    refine w_iload_n dX0_itemsOnFloor_56 rfl ?_
    exact w_ireturn dX0_itemsOnFloor_57 rfl rfl ⟨Nat.le_refl _, Nat.le_refl _⟩ w
  · rw [if_neg c] at w
    refine w_iload_n dX0_itemsOnFloor_18 rfl ?_
    refine w_aload_n dX0_itemsOnFloor_19 rfl ?_
    refine w_getp dX0_itemsOnFloor_20 lk_RX0_53 e1 rfl ?_
    refine w_iload_n dX0_itemsOnFloor_23 rfl ?_
    obtain ⟨e4, w⟩ := w
    refine w_callV (As := [.int l2]) (st := [.int l1]) dX0_itemsOnFloor_24 mt_X6_at g_797 g_724 g_725 rfl e4 rfl rfl (Nat.le_of_ble_eq_true rfl) (Nat.le_refl _) ⟨Nat.le_refl _, Nat.le_refl _⟩ w ?_
    rintro v h2 ⟨r1, rfl, w⟩
    refine w_iconst (v := (-1)) dX0_itemsOnFloor_27 rfl ?_
    refine w_ic_ne (tgt := 47) dX0_itemsOnFloor_28 rfl (fun c => ?_) (fun c => ?_)
    · rw [if_neg c] at w
      refine w_iconst (v := 0) dX0_itemsOnFloor_47 rfl ?_
      refine w_iadd dX0_itemsOnFloor_48 ?_
      refine v_istore_n (l' := [.ref l0, .int (l1 + 0), .int l2]) dX0_itemsOnFloor_49 (Nat.le_of_ble_eq_true rfl) rfl ?_
      refine v_iinc (l' := [.ref l0, .int (l1 + 0), .int (l2 + 1)]) (v := l2 + 1) dX0_itemsOnFloor_50 rfl rfl (Nat.le_of_ble_eq_true rfl) rfl ?_
      refine w_goto (tgt := 4) dX0_itemsOnFloor_53 rfl ?_
      exact w
    · rw [if_pos c] at w
      refine w_aload_n dX0_itemsOnFloor_31 rfl ?_
      obtain ⟨e1, w⟩ := w
      refine w_getp dX0_itemsOnFloor_32 lk_RX0_56 e1 rfl ?_
      refine w_iload_n dX0_itemsOnFloor_35 rfl ?_
      obtain ⟨e2, w⟩ := w
      refine w_callV (As := [.int l2]) (st := [.int l1]) dX0_itemsOnFloor_36 mt_X6_at g_797 g_724 g_725 rfl e2 rfl rfl (Nat.le_of_ble_eq_true rfl) (Nat.le_refl _) ⟨Nat.le_refl _, Nat.le_refl _⟩ w ?_
      rintro v h4 ⟨r3, rfl, w⟩
      refine w_iconst (v := (-1)) dX0_itemsOnFloor_39 rfl ?_
      refine w_ic_ne (tgt := 47) dX0_itemsOnFloor_40 rfl (fun c => ?_) (fun c => ?_)
      · rw [if_neg c] at w
        refine w_iconst (v := 0) dX0_itemsOnFloor_47 rfl ?_
        refine w_iadd dX0_itemsOnFloor_48 ?_
        refine v_istore_n (l' := [.ref l0, .int (l1 + 0), .int l2]) dX0_itemsOnFloor_49 (Nat.le_of_ble_eq_true rfl) rfl ?_
        refine v_iinc (l' := [.ref l0, .int (l1 + 0), .int (l2 + 1)]) (v := l2 + 1) dX0_itemsOnFloor_50 rfl rfl (Nat.le_of_ble_eq_true rfl) rfl ?_
        refine w_goto (tgt := 4) dX0_itemsOnFloor_53 rfl ?_
        exact w
      · rw [if_pos c] at w
        refine w_iconst (v := 1) dX0_itemsOnFloor_43 rfl ?_
        refine w_goto (tgt := 48) dX0_itemsOnFloor_44 rfl ?_
        refine w_iadd dX0_itemsOnFloor_48 ?_
        refine v_istore_n (l' := [.ref l0, .int (l1 + 1), .int l2]) dX0_itemsOnFloor_49 (Nat.le_of_ble_eq_true rfl) rfl ?_
        refine v_iinc (l' := [.ref l0, .int (l1 + 1), .int (l2 + 1)]) (v := l2 + 1) dX0_itemsOnFloor_50 rfl rfl (Nat.le_of_ble_eq_true rfl) rfl ?_
        refine w_goto (tgt := 4) dX0_itemsOnFloor_53 rfl ?_
        exact w
set_option maxRecDepth 20000 in
set_option maxHeartbeats 4000000 in
theorem x_X0_isRaised {G : pm_G} {d : Nat} {post : pm_PT} {h : pm_H} {l0 : Nat} {l1 : Int32} (w :
    (h.1[l0]? = some (0, 0)) ∧
    (h.1[gp h l0 12]? = some (0, 6)) ∧
    ci G d m_X6_at [.ref (gp h l0 12), .int l1] h fun r1 h2 =>
    if r1 = (-1) then (
      post (some (.int 0)) h2
    ) else (
      (h2.1[l0]? = some (0, 0)) ∧
      (h2.1[gp h2 l0 0]? = some (0, 4)) ∧
      cf G d m_X4_keyOf [.ref (gp h2 l0 0), .int l1] h2 fun r3 h4 =>
      (h4.1[l0]? = some (0, 0)) ∧
      (h4.1[gp h4 l0 3]? = some (0, 6)) ∧
      ci G d m_X6_at [.ref (gp h4 l0 3), .int r1] h4 fun r5 h6 =>
      (h6.1[gp h4 l0 0]? = some (0, 4)) ∧
      cf G d m_X4_keyOf [.ref (gp h4 l0 0), .int r5] h6 fun r7 h8 =>
      if 0 ≤ (Op.cmpValue (FP.fcmp r3 r7) .g) then (
        post (some (.int 0)) h8
      ) else (
        post (some (.int 1)) h8
      )
    )) :
    Wp G (m_X0_isRaised, d + 1, 0, 0, post) (0, 0) 0 [.ref l0, .int l1, .null] [] h := by
  refine w_aload_n dX0_isRaised_0 rfl ?_
  obtain ⟨e1, w⟩ := w
  refine w_getp dX0_isRaised_1 lk_RX0_50 e1 rfl ?_
  refine w_iload_n dX0_isRaised_4 rfl ?_
  obtain ⟨e2, w⟩ := w
  refine w_callV (As := [.int l1]) (st := []) dX0_isRaised_5 mt_X6_at g_797 g_724 g_725 rfl e2 rfl rfl (Nat.le_of_ble_eq_true rfl) (Nat.le_refl _) ⟨Nat.le_refl _, Nat.le_refl _⟩ w ?_
  rintro v h2 ⟨r1, rfl, w⟩
  refine v_istore_n (l' := [.ref l0, .int l1, .int r1]) dX0_isRaised_8 (Nat.le_of_ble_eq_true rfl) rfl ?_
  refine w_iload_n dX0_isRaised_9 rfl ?_
  refine w_iconst (v := (-1)) dX0_isRaised_10 rfl ?_
  refine w_ic_eq (tgt := 45) dX0_isRaised_11 rfl (fun c => ?_) (fun c => ?_)
  · rw [if_pos c] at w
    refine w_iconst (v := 0) dX0_isRaised_45 rfl ?_
    exact w_ireturn dX0_isRaised_46 rfl rfl ⟨Nat.le_refl _, Nat.le_refl _⟩ w
  · rw [if_neg c] at w
    refine w_aload_n dX0_isRaised_14 rfl ?_
    obtain ⟨e1, w⟩ := w
    refine w_getp dX0_isRaised_15 lk_RX0_62 e1 rfl ?_
    refine w_iload_n dX0_isRaised_18 rfl ?_
    obtain ⟨e2, w⟩ := w
    refine w_callV (As := [.int l1]) (st := []) dX0_isRaised_19 mt_X4_keyOf g_847 g_780 g_781 rfl e2 rfl rfl (Nat.le_of_ble_eq_true rfl) (Nat.le_refl _) ⟨Nat.le_refl _, Nat.le_refl _⟩ w ?_
    rintro v h4 ⟨r3, rfl, w⟩
    refine w_aload_n dX0_isRaised_22 rfl ?_
    obtain ⟨e1, w⟩ := w
    refine w_getp dX0_isRaised_23 lk_RX0_62 e1 rfl ?_
    refine w_aload_n dX0_isRaised_26 rfl ?_
    refine w_getp dX0_isRaised_27 lk_RX0_23 e1 rfl ?_
    refine w_iload_n dX0_isRaised_30 rfl ?_
    obtain ⟨e2, w⟩ := w
    refine w_callV (As := [.int r1]) (st := [.ref (gp h4 l0 0), .float r3]) dX0_isRaised_31 mt_X6_at g_797 g_724 g_725 rfl e2 rfl rfl (Nat.le_of_ble_eq_true rfl) (Nat.le_refl _) ⟨Nat.le_refl _, Nat.le_refl _⟩ w ?_
    rintro v h6 ⟨r5, rfl, w⟩
    obtain ⟨e1, w⟩ := w
    refine w_callV (As := [.int r5]) (st := [.float r3]) dX0_isRaised_34 mt_X4_keyOf g_847 g_780 g_781 rfl e1 rfl rfl (Nat.le_of_ble_eq_true rfl) (Nat.le_refl _) ⟨Nat.le_refl _, Nat.le_refl _⟩ w ?_
    rintro v h8 ⟨r7, rfl, w⟩
    refine w_fcmp dX0_isRaised_37 ?_
    refine w_if_ge (tgt := 45) dX0_isRaised_38 rfl (fun c => ?_) (fun c => ?_)
    · rw [if_pos c] at w
      refine w_iconst (v := 0) dX0_isRaised_45 rfl ?_
      exact w_ireturn dX0_isRaised_46 rfl rfl ⟨Nat.le_refl _, Nat.le_refl _⟩ w
    · rw [if_neg c] at w
      refine w_iconst (v := 1) dX0_isRaised_41 rfl ?_
      refine w_goto (tgt := 46) dX0_isRaised_42 rfl ?_
      exact w_ireturn dX0_isRaised_46 rfl rfl ⟨Nat.le_refl _, Nat.le_refl _⟩ w
set_option maxRecDepth 20000 in
set_option maxHeartbeats 4000000 in
theorem x_X0_raisedIn {G : pm_G} {d : Nat} {post : pm_PT} {h : pm_H} {l0 : Nat} {l1 : Int32} (w :
    Wp G (m_X0_raisedIn, d + 1, 0, 0, post) (0, 0) 4 [.ref l0, .int l1, .int 0, .int 0] [] h) :
    Wp G (m_X0_raisedIn, d + 1, 0, 0, post) (0, 0) 0 [.ref l0, .int l1, .null, .null] [] h := by
  refine w_iconst (v := 0) dX0_raisedIn_0 rfl ?_
  refine v_istore_n (l' := [.ref l0, .int l1, .int 0, .null]) dX0_raisedIn_1 (Nat.le_of_ble_eq_true rfl) rfl ?_
  refine w_iconst (v := 0) dX0_raisedIn_2 rfl ?_
  refine v_istore_n (l' := [.ref l0, .int l1, .int 0, .int 0]) dX0_raisedIn_3 (Nat.le_of_ble_eq_true rfl) rfl ?_
  exact w
set_option maxRecDepth 20000 in
set_option maxHeartbeats 4000000 in
theorem x_X0_raisedIn_4 {G : pm_G} {d : Nat} {post : pm_PT} {h : pm_H} {l0 : Nat} {l1 : Int32} {l2 : Int32} {l3 : Int32} (w :
    if 20 ≤ l3 then (
      post (some (.int l2)) h
    ) else (
      (h.1[l0]? = some (0, 0)) ∧
      (h.1[gp h l0 13]? = some (0, 6)) ∧
      ci G d m_X6_at [.ref (gp h l0 13), .int l3] h fun r1 h2 =>
      if r1 = l1 then (
        (h2.1[l0]? = some (0, 0)) ∧
        ci G d m_X0_isRaised [.ref l0, .int l3] h2 fun r3 h4 =>
        if r3 = 0 then (
          Wp G (m_X0_raisedIn, d + 1, 0, 0, post) (0, 0) 4 [.ref l0, .int l1, .int (l2 + 0), .int (l3 + 1)] [] h4
        ) else (
          Wp G (m_X0_raisedIn, d + 1, 0, 0, post) (0, 0) 4 [.ref l0, .int l1, .int (l2 + 1), .int (l3 + 1)] [] h4
        )
      ) else (
        Wp G (m_X0_raisedIn, d + 1, 0, 0, post) (0, 0) 4 [.ref l0, .int l1, .int (l2 + 0), .int (l3 + 1)] [] h2
      )
    )) :
    Wp G (m_X0_raisedIn, d + 1, 0, 0, post) (0, 0) 4 [.ref l0, .int l1, .int l2, .int l3] [] h := by
  refine w_iload_n dX0_raisedIn_4 rfl ?_
  refine w_bipush (v := 20) dX0_raisedIn_5 rfl ?_
  refine w_ic_ge (tgt := 44) dX0_raisedIn_7 rfl (fun c => ?_) (fun c => ?_)
  · rw [if_pos c] at w
    refine w_iload_n dX0_raisedIn_44 rfl ?_
    exact w_ireturn dX0_raisedIn_45 rfl rfl ⟨Nat.le_refl _, Nat.le_refl _⟩ w
  · rw [if_neg c] at w
    refine w_iload_n dX0_raisedIn_10 rfl ?_
    refine w_aload_n dX0_raisedIn_11 rfl ?_
    obtain ⟨e1, w⟩ := w
    refine w_getp dX0_raisedIn_12 lk_RX0_53 e1 rfl ?_
    refine w_iload_n dX0_raisedIn_15 rfl ?_
    obtain ⟨e2, w⟩ := w
    refine w_callV (As := [.int l3]) (st := [.int l2]) dX0_raisedIn_16 mt_X6_at g_797 g_724 g_725 rfl e2 rfl rfl (Nat.le_of_ble_eq_true rfl) (Nat.le_refl _) ⟨Nat.le_refl _, Nat.le_refl _⟩ w ?_
    rintro v h2 ⟨r1, rfl, w⟩
    refine w_iload_n dX0_raisedIn_19 rfl ?_
    refine w_ic_ne (tgt := 35) dX0_raisedIn_20 rfl (fun c => ?_) (fun c => ?_)
    · rw [if_neg c] at w
      refine w_iconst (v := 0) dX0_raisedIn_35 rfl ?_
      refine w_iadd dX0_raisedIn_36 ?_
      refine v_istore_n (l' := [.ref l0, .int l1, .int (l2 + 0), .int l3]) dX0_raisedIn_37 (Nat.le_of_ble_eq_true rfl) rfl ?_
      refine v_iinc (l' := [.ref l0, .int l1, .int (l2 + 0), .int (l3 + 1)]) (v := l3 + 1) dX0_raisedIn_38 rfl rfl (Nat.le_of_ble_eq_true rfl) rfl ?_
      refine w_goto (tgt := 4) dX0_raisedIn_41 rfl ?_
      exact w
    · rw [if_pos c] at w
      refine w_aload_n dX0_raisedIn_23 rfl ?_
      refine w_iload_n dX0_raisedIn_24 rfl ?_
      obtain ⟨e1, w⟩ := w
      refine w_callV (As := [.int l3]) (st := [.int l2]) dX0_raisedIn_25 mt_X0_isRaised g_914 g_894 g_895 rfl e1 rfl rfl (Nat.le_of_ble_eq_true rfl) (Nat.le_refl _) ⟨Nat.le_refl _, Nat.le_refl _⟩ w ?_
      rintro v h4 ⟨r3, rfl, w⟩
      refine w_if_eq (tgt := 35) dX0_raisedIn_28 rfl (fun c => ?_) (fun c => ?_)
      · rw [if_pos c] at w
        refine w_iconst (v := 0) dX0_raisedIn_35 rfl ?_
        refine w_iadd dX0_raisedIn_36 ?_
        refine v_istore_n (l' := [.ref l0, .int l1, .int (l2 + 0), .int l3]) dX0_raisedIn_37 (Nat.le_of_ble_eq_true rfl) rfl ?_
        refine v_iinc (l' := [.ref l0, .int l1, .int (l2 + 0), .int (l3 + 1)]) (v := l3 + 1) dX0_raisedIn_38 rfl rfl (Nat.le_of_ble_eq_true rfl) rfl ?_
        refine w_goto (tgt := 4) dX0_raisedIn_41 rfl ?_
        exact w
      · rw [if_neg c] at w
        refine w_iconst (v := 1) dX0_raisedIn_31 rfl ?_
        refine w_goto (tgt := 36) dX0_raisedIn_32 rfl ?_
        refine w_iadd dX0_raisedIn_36 ?_
        refine v_istore_n (l' := [.ref l0, .int l1, .int (l2 + 1), .int l3]) dX0_raisedIn_37 (Nat.le_of_ble_eq_true rfl) rfl ?_
        refine v_iinc (l' := [.ref l0, .int l1, .int (l2 + 1), .int (l3 + 1)]) (v := l3 + 1) dX0_raisedIn_38 rfl rfl (Nat.le_of_ble_eq_true rfl) rfl ?_
        refine w_goto (tgt := 4) dX0_raisedIn_41 rfl ?_
        exact w
set_option maxRecDepth 20000 in
set_option maxHeartbeats 4000000 in
theorem x_X0_raisedInAll {G : pm_G} {d : Nat} {post : pm_PT} {h : pm_H} {l0 : Nat} (w :
    Wp G (m_X0_raisedInAll, d + 1, 0, 0, post) (0, 0) 4 [.ref l0, .int 0, .int 0] [] h) :
    Wp G (m_X0_raisedInAll, d + 1, 0, 0, post) (0, 0) 0 [.ref l0, .null, .null] [] h := by
  refine w_iconst (v := 0) dX0_raisedInAll_0 rfl ?_
  refine v_istore_n (l' := [.ref l0, .int 0, .null]) dX0_raisedInAll_1 (Nat.le_of_ble_eq_true rfl) rfl ?_
  refine w_iconst (v := 0) dX0_raisedInAll_2 rfl ?_
  refine v_istore_n (l' := [.ref l0, .int 0, .int 0]) dX0_raisedInAll_3 (Nat.le_of_ble_eq_true rfl) rfl ?_
  exact w
set_option maxRecDepth 20000 in
set_option maxHeartbeats 4000000 in
theorem x_X0_raisedInAll_4 {G : pm_G} {d : Nat} {post : pm_PT} {h : pm_H} {l0 : Nat} {l1 : Int32} {l2 : Int32} (w :
    if 20 ≤ l2 then (
      post (some (.int l1)) h
    ) else (
      (h.1[l0]? = some (0, 0)) ∧
      ci G d m_X0_isRaised [.ref l0, .int l2] h fun r1 h2 =>
      if r1 = 0 then (
        Wp G (m_X0_raisedInAll, d + 1, 0, 0, post) (0, 0) 4 [.ref l0, .int (l1 + 0), .int (l2 + 1)] [] h2
      ) else (
        Wp G (m_X0_raisedInAll, d + 1, 0, 0, post) (0, 0) 4 [.ref l0, .int (l1 + 1), .int (l2 + 1)] [] h2
      )
    )) :
    Wp G (m_X0_raisedInAll, d + 1, 0, 0, post) (0, 0) 4 [.ref l0, .int l1, .int l2] [] h := by
  refine w_iload_n dX0_raisedInAll_4 rfl ?_
  refine w_bipush (v := 20) dX0_raisedInAll_5 rfl ?_
  refine w_ic_ge (tgt := 32) dX0_raisedInAll_7 rfl (fun c => ?_) (fun c => ?_)
  · rw [if_pos c] at w
    refine w_iload_n dX0_raisedInAll_32 rfl ?_
    exact w_ireturn dX0_raisedInAll_33 rfl rfl ⟨Nat.le_refl _, Nat.le_refl _⟩ w
  · rw [if_neg c] at w
    refine w_iload_n dX0_raisedInAll_10 rfl ?_
    refine w_aload_n dX0_raisedInAll_11 rfl ?_
    refine w_iload_n dX0_raisedInAll_12 rfl ?_
    obtain ⟨e1, w⟩ := w
    refine w_callV (As := [.int l2]) (st := [.int l1]) dX0_raisedInAll_13 mt_X0_isRaised g_914 g_894 g_895 rfl e1 rfl rfl (Nat.le_of_ble_eq_true rfl) (Nat.le_refl _) ⟨Nat.le_refl _, Nat.le_refl _⟩ w ?_
    rintro v h2 ⟨r1, rfl, w⟩
    refine w_if_eq (tgt := 23) dX0_raisedInAll_16 rfl (fun c => ?_) (fun c => ?_)
    · rw [if_pos c] at w
      refine w_iconst (v := 0) dX0_raisedInAll_23 rfl ?_
      refine w_iadd dX0_raisedInAll_24 ?_
      refine v_istore_n (l' := [.ref l0, .int (l1 + 0), .int l2]) dX0_raisedInAll_25 (Nat.le_of_ble_eq_true rfl) rfl ?_
      refine v_iinc (l' := [.ref l0, .int (l1 + 0), .int (l2 + 1)]) (v := l2 + 1) dX0_raisedInAll_26 rfl rfl (Nat.le_of_ble_eq_true rfl) rfl ?_
      refine w_goto (tgt := 4) dX0_raisedInAll_29 rfl ?_
      exact w
    · rw [if_neg c] at w
      refine w_iconst (v := 1) dX0_raisedInAll_19 rfl ?_
      refine w_goto (tgt := 24) dX0_raisedInAll_20 rfl ?_
      refine w_iadd dX0_raisedInAll_24 ?_
      refine v_istore_n (l' := [.ref l0, .int (l1 + 1), .int l2]) dX0_raisedInAll_25 (Nat.le_of_ble_eq_true rfl) rfl ?_
      refine v_iinc (l' := [.ref l0, .int (l1 + 1), .int (l2 + 1)]) (v := l2 + 1) dX0_raisedInAll_26 rfl rfl (Nat.le_of_ble_eq_true rfl) rfl ?_
      refine w_goto (tgt := 4) dX0_raisedInAll_29 rfl ?_
      exact w
set_option maxRecDepth 20000 in
set_option maxHeartbeats 4000000 in
theorem x_X0_aheadOf {G : pm_G} {d : Nat} {post : pm_PT} {h : pm_H} {l0 : Nat} {l1 : Int32} {l2 : Int32} (w :
    Wp G (m_X0_aheadOf, d + 1, 0, 0, post) (0, 0) 5 [.ref l0, .int l1, .int l2, .int 0, .int 0] [] h) :
    Wp G (m_X0_aheadOf, d + 1, 0, 0, post) (0, 0) 0 [.ref l0, .int l1, .int l2, .null, .null] [] h := by
  refine w_iconst (v := 0) dX0_aheadOf_0 rfl ?_
  refine v_istore_n (l' := [.ref l0, .int l1, .int l2, .int 0, .null]) dX0_aheadOf_1 (Nat.le_of_ble_eq_true rfl) rfl ?_
  refine w_iconst (v := 0) dX0_aheadOf_2 rfl ?_
  refine v_istore (l' := [.ref l0, .int l1, .int l2, .int 0, .int 0]) dX0_aheadOf_3 (Nat.le_of_ble_eq_true rfl) rfl ?_
  exact w
set_option maxRecDepth 20000 in
set_option maxHeartbeats 4000000 in
theorem x_X0_aheadOf_5 {G : pm_G} {d : Nat} {post : pm_PT} {h : pm_H} {l0 : Nat} {l1 : Int32} {l2 : Int32} {l3 : Int32} {l4 : Int32} (w :
    if 20 ≤ l4 then (
      post (some (.int l3)) h
    ) else (
      (h.1[l0]? = some (0, 0)) ∧
      (h.1[gp h l0 13]? = some (0, 6)) ∧
      ci G d m_X6_at [.ref (gp h l0 13), .int l4] h fun r1 h2 =>
      if r1 = l1 then (
        (h2.1[l0]? = some (0, 0)) ∧
        (h2.1[gp h2 l0 0]? = some (0, 4)) ∧
        ci G d m_X4_isAhead [.ref (gp h2 l0 0), .int l4, .int l2] h2 fun r3 h4 =>
        if r3 = 0 then (
          Wp G (m_X0_aheadOf, d + 1, 0, 0, post) (0, 0) 5 [.ref l0, .int l1, .int l2, .int (l3 + 0), .int (l4 + 1)] [] h4
        ) else (
          Wp G (m_X0_aheadOf, d + 1, 0, 0, post) (0, 0) 5 [.ref l0, .int l1, .int l2, .int (l3 + 1), .int (l4 + 1)] [] h4
        )
      ) else (
        Wp G (m_X0_aheadOf, d + 1, 0, 0, post) (0, 0) 5 [.ref l0, .int l1, .int l2, .int (l3 + 0), .int (l4 + 1)] [] h2
      )
    )) :
    Wp G (m_X0_aheadOf, d + 1, 0, 0, post) (0, 0) 5 [.ref l0, .int l1, .int l2, .int l3, .int l4] [] h := by
  refine w_iload dX0_aheadOf_5 rfl ?_
  refine w_bipush (v := 20) dX0_aheadOf_7 rfl ?_
  refine w_ic_ge (tgt := 52) dX0_aheadOf_9 rfl (fun c => ?_) (fun c => ?_)
  · rw [if_pos c] at w
    refine w_iload_n dX0_aheadOf_52 rfl ?_
    exact w_ireturn dX0_aheadOf_53 rfl rfl ⟨Nat.le_refl _, Nat.le_refl _⟩ w
  · rw [if_neg c] at w
    refine w_iload_n dX0_aheadOf_12 rfl ?_
    refine w_aload_n dX0_aheadOf_13 rfl ?_
    obtain ⟨e1, w⟩ := w
    refine w_getp dX0_aheadOf_14 lk_RX0_53 e1 rfl ?_
    refine w_iload dX0_aheadOf_17 rfl ?_
    obtain ⟨e2, w⟩ := w
    refine w_callV (As := [.int l4]) (st := [.int l3]) dX0_aheadOf_19 mt_X6_at g_797 g_724 g_725 rfl e2 rfl rfl (Nat.le_of_ble_eq_true rfl) (Nat.le_refl _) ⟨Nat.le_refl _, Nat.le_refl _⟩ w ?_
    rintro v h2 ⟨r1, rfl, w⟩
    refine w_iload_n dX0_aheadOf_22 rfl ?_
    refine w_ic_ne (tgt := 43) dX0_aheadOf_23 rfl (fun c => ?_) (fun c => ?_)
    · rw [if_neg c] at w
      refine w_iconst (v := 0) dX0_aheadOf_43 rfl ?_
      refine w_iadd dX0_aheadOf_44 ?_
      refine v_istore_n (l' := [.ref l0, .int l1, .int l2, .int (l3 + 0), .int l4]) dX0_aheadOf_45 (Nat.le_of_ble_eq_true rfl) rfl ?_
      refine v_iinc (l' := [.ref l0, .int l1, .int l2, .int (l3 + 0), .int (l4 + 1)]) (v := l4 + 1) dX0_aheadOf_46 rfl rfl (Nat.le_of_ble_eq_true rfl) rfl ?_
      refine w_goto (tgt := 5) dX0_aheadOf_49 rfl ?_
      exact w
    · rw [if_pos c] at w
      refine w_aload_n dX0_aheadOf_26 rfl ?_
      obtain ⟨e1, w⟩ := w
      refine w_getp dX0_aheadOf_27 lk_RX0_62 e1 rfl ?_
      refine w_iload dX0_aheadOf_30 rfl ?_
      refine w_iload_n dX0_aheadOf_32 rfl ?_
      obtain ⟨e2, w⟩ := w
      refine w_callV (As := [.int l4, .int l2]) (st := [.int l3]) dX0_aheadOf_33 mt_X4_isAhead g_1098 g_1079 g_1080 rfl e2 rfl rfl (Nat.le_of_ble_eq_true rfl) (Nat.le_refl _) ⟨Nat.le_refl _, Nat.le_refl _⟩ w ?_
      rintro v h4 ⟨r3, rfl, w⟩
      refine w_if_eq (tgt := 43) dX0_aheadOf_36 rfl (fun c => ?_) (fun c => ?_)
      · rw [if_pos c] at w
        refine w_iconst (v := 0) dX0_aheadOf_43 rfl ?_
        refine w_iadd dX0_aheadOf_44 ?_
        refine v_istore_n (l' := [.ref l0, .int l1, .int l2, .int (l3 + 0), .int l4]) dX0_aheadOf_45 (Nat.le_of_ble_eq_true rfl) rfl ?_
        refine v_iinc (l' := [.ref l0, .int l1, .int l2, .int (l3 + 0), .int (l4 + 1)]) (v := l4 + 1) dX0_aheadOf_46 rfl rfl (Nat.le_of_ble_eq_true rfl) rfl ?_
        refine w_goto (tgt := 5) dX0_aheadOf_49 rfl ?_
        exact w
      · rw [if_neg c] at w
        refine w_iconst (v := 1) dX0_aheadOf_39 rfl ?_
        refine w_goto (tgt := 44) dX0_aheadOf_40 rfl ?_
        refine w_iadd dX0_aheadOf_44 ?_
        refine v_istore_n (l' := [.ref l0, .int l1, .int l2, .int (l3 + 1), .int l4]) dX0_aheadOf_45 (Nat.le_of_ble_eq_true rfl) rfl ?_
        refine v_iinc (l' := [.ref l0, .int l1, .int l2, .int (l3 + 1), .int (l4 + 1)]) (v := l4 + 1) dX0_aheadOf_46 rfl rfl (Nat.le_of_ble_eq_true rfl) rfl ?_
        refine w_goto (tgt := 5) dX0_aheadOf_49 rfl ?_
        exact w
set_option maxRecDepth 20000 in
set_option maxHeartbeats 4000000 in
theorem x_X0_selected {G : pm_G} {d : Nat} {post : pm_PT} {h : pm_H} {l0 : Nat} {l1 : Int32} {l2 : Int32} (w :
    Wp G (m_X0_selected, d + 1, 0, 0, post) (0, 0) 2 [.ref l0, .int l1, .int l2, .int 0] [] h) :
    Wp G (m_X0_selected, d + 1, 0, 0, post) (0, 0) 0 [.ref l0, .int l1, .int l2, .null] [] h := by
  refine w_iconst (v := 0) dX0_selected_0 rfl ?_
  refine v_istore_n (l' := [.ref l0, .int l1, .int l2, .int 0]) dX0_selected_1 (Nat.le_of_ble_eq_true rfl) rfl ?_
  exact w
set_option maxRecDepth 20000 in
set_option maxHeartbeats 4000000 in
theorem x_X0_selected_2 {G : pm_G} {d : Nat} {post : pm_PT} {h : pm_H} {l0 : Nat} {l1 : Int32} {l2 : Int32} {l3 : Int32} (w :
    if 20 ≤ l3 then (
      post (some (.int (-1))) h
    ) else (
      (h.1[l0]? = some (0, 0)) ∧
      (h.1[gp h l0 13]? = some (0, 6)) ∧
      ci G d m_X6_at [.ref (gp h l0 13), .int l3] h fun r1 h2 =>
      if r1 = l1 then (
        (h2.1[l0]? = some (0, 0)) ∧
        ci G d m_X0_aheadOf [.ref l0, .int l1, .int l3] h2 fun r3 h4 =>
        if r3 = l2 then (
          post (some (.int l3)) h4
        ) else (
          Wp G (m_X0_selected, d + 1, 0, 0, post) (0, 0) 2 [.ref l0, .int l1, .int l2, .int (l3 + 1)] [] h4
        )
      ) else (
        Wp G (m_X0_selected, d + 1, 0, 0, post) (0, 0) 2 [.ref l0, .int l1, .int l2, .int (l3 + 1)] [] h2
      )
    )) :
    Wp G (m_X0_selected, d + 1, 0, 0, post) (0, 0) 2 [.ref l0, .int l1, .int l2, .int l3] [] h := by
  refine w_iload_n dX0_selected_2 rfl ?_
  refine w_bipush (v := 20) dX0_selected_3 rfl ?_
  refine w_ic_ge (tgt := 38) dX0_selected_5 rfl (fun c => ?_) (fun c => ?_)
  · rw [if_pos c] at w
    refine w_iconst (v := (-1)) dX0_selected_38 rfl ?_
    exact w_ireturn dX0_selected_39 rfl rfl ⟨Nat.le_refl _, Nat.le_refl _⟩ w
  · rw [if_neg c] at w
    refine w_aload_n dX0_selected_8 rfl ?_
    obtain ⟨e1, w⟩ := w
    refine w_getp dX0_selected_9 lk_RX0_53 e1 rfl ?_
    refine w_iload_n dX0_selected_12 rfl ?_
    obtain ⟨e2, w⟩ := w
    refine w_callV (As := [.int l3]) (st := []) dX0_selected_13 mt_X6_at g_797 g_724 g_725 rfl e2 rfl rfl (Nat.le_of_ble_eq_true rfl) (Nat.le_refl _) ⟨Nat.le_refl _, Nat.le_refl _⟩ w ?_
    rintro v h2 ⟨r1, rfl, w⟩
    refine w_iload_n dX0_selected_16 rfl ?_
    refine w_ic_ne (tgt := 32) dX0_selected_17 rfl (fun c => ?_) (fun c => ?_)
    · rw [if_neg c] at w
      refine v_iinc (l' := [.ref l0, .int l1, .int l2, .int (l3 + 1)]) (v := l3 + 1) dX0_selected_32 rfl rfl (Nat.le_of_ble_eq_true rfl) rfl ?_
      refine w_goto (tgt := 2) dX0_selected_35 rfl ?_
      exact w
    · rw [if_pos c] at w
      refine w_aload_n dX0_selected_20 rfl ?_
      refine w_iload_n dX0_selected_21 rfl ?_
      refine w_iload_n dX0_selected_22 rfl ?_
      obtain ⟨e1, w⟩ := w
      refine w_callV (As := [.int l1, .int l3]) (st := []) dX0_selected_23 mt_X0_aheadOf g_1094 g_1095 g_1096 rfl e1 rfl rfl (Nat.le_of_ble_eq_true rfl) (Nat.le_refl _) ⟨Nat.le_refl _, Nat.le_refl _⟩ w ?_
      rintro v h4 ⟨r3, rfl, w⟩
      refine w_iload_n dX0_selected_26 rfl ?_
      refine w_ic_ne (tgt := 32) dX0_selected_27 rfl (fun c => ?_) (fun c => ?_)
      · rw [if_neg c] at w
        refine v_iinc (l' := [.ref l0, .int l1, .int l2, .int (l3 + 1)]) (v := l3 + 1) dX0_selected_32 rfl rfl (Nat.le_of_ble_eq_true rfl) rfl ?_
        refine w_goto (tgt := 2) dX0_selected_35 rfl ?_
        exact w
      · rw [if_pos c] at w
        refine w_iload_n dX0_selected_30 rfl ?_
        exact w_ireturn dX0_selected_31 rfl rfl ⟨Nat.le_refl _, Nat.le_refl _⟩ w
