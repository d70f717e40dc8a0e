set_option linter.all false
/-! comes, away: rows -/
theorem g_1314 : (Jvm.Cond.methodLink "RaisedQueue" (253 : Nat) ({ cls := "RaisedQueue$Trial", name := "awayOf", desc := "(I)I" } : Jvm.MethodName)) ∈ gw := List.mem_filter.mpr ⟨List.mem_of_getElem? (i := 1314) (by decide +kernel), by decide +kernel⟩
set_option maxRecDepth 20000 in
set_option maxHeartbeats 4000000 in
theorem x_X11_comes {G : pm_G} {d : Nat} {post : pm_PT} {px : pm_H → Prop} {h : pm_H} {l0 : Nat} {l1 : Int32} {l2 : Int32} (w :
    (h.1[l0]? = some (0, 10)) ∧
    ci G (d + 5) m_X11_shutHeap [.ref l0, .int l1] h fun r1 h2 =>
    if r1 = 0 then (
      px h2
    ) else (
      (h2.1[l0]? = some (0, 10)) ∧
      (h2.1[gp h2 l0 7]? = some (0, 8)) ∧
      cv G (d + 5) m_X8_takeAll [.ref (gp h2 l0 7), .ref (gp h2 l0 6), .int l1] h2 fun h4 =>
      if l2 < 0 then (
        px h4
      ) else (
        (h4.1[l0]? = some (0, 10)) ∧
        (h4.1[gp h4 l0 7]? = some (0, 8)) ∧
        if (gi h4 (gp h4 l0 7) 3) ≤ l2 then (
          px h4
        ) else (
          (h4.1[gp h4 (gp h4 l0 7) 2]? = some (0, 6)) ∧
          ci G (d + 5) m_X6_at [.ref (gp h4 (gp h4 l0 7) 2), .int l2] h4 fun r5 h6 =>
          post (some (.int r5)) h6
        )
      )
    )) :
    WpX G px (m_X11_comes, d + 5 + 1, 1, 6, post) (0, 0) 0 [.ref l0, .int l1, .int l2] [] h := by
  refine wx_aload_n dX11_comes_0 rfl ?_
  refine wx_iload_n dX11_comes_1 rfl ?_
  obtain ⟨e1, w⟩ := w
  refine wx_callV (As := [.int l1]) (st := []) dX11_comes_2 mt_X11_shutHeap g_1046 g_1048 g_42 rfl e1 rfl rfl (Nat.le_of_ble_eq_true rfl) (Nat.le_refl _) ⟨Nat.zero_le _, Nat.zero_le _⟩ w ?_
  rintro v h2 ⟨r1, rfl, w⟩
  refine wx_if_eq (tgt := 47) dX11_comes_5 rfl (fun c => ?_) (fun c => ?_)
  · rw [if_pos c] at w
    exact wx_throw rfl dX11_comes_47 dX11_comes_50 dX11_comes_51 dX11_comes_53 dX11_comes_56 (by decide) (by show 6 ≤ d + 5 + 1; omega) (Nat.le_refl _) (Nat.le_refl _) w
  · rw [if_neg c] at w
    refine wx_aload_n dX11_comes_8 rfl ?_
    obtain ⟨e1, w⟩ := w
    refine wx_getp dX11_comes_9 lk_RX11_57 e1 rfl ?_
    refine wx_aload_n dX11_comes_12 rfl ?_
    refine wx_getp dX11_comes_13 lk_RX11_50 e1 rfl ?_
    refine wx_iload_n dX11_comes_16 rfl ?_
    obtain ⟨e2, w⟩ := w
    refine wx_callV (As := [.ref (gp h2 l0 6), .int l1]) (st := []) dX11_comes_17 mt_X8_takeAll g_1050 g_1051 g_1052 rfl e2 rfl rfl (Nat.le_of_ble_eq_true rfl) (Nat.le_refl _) ⟨Nat.zero_le _, Nat.zero_le _⟩ w ?_
    rintro v h4 ⟨rfl, w⟩
    refine wx_iload_n dX11_comes_20 rfl ?_
    refine wx_if_lt (tgt := 47) dX11_comes_21 rfl (fun c => ?_) (fun c => ?_)
    · rw [if_pos c] at w
      exact wx_throw rfl dX11_comes_47 dX11_comes_50 dX11_comes_51 dX11_comes_53 dX11_comes_56 (by decide) (by show 6 ≤ d + 5 + 1; omega) (Nat.le_refl _) (Nat.le_refl _) w
    · rw [if_neg c] at w
      refine wx_iload_n dX11_comes_24 rfl ?_
      refine wx_aload_n dX11_comes_25 rfl ?_
      obtain ⟨e1, w⟩ := w
      refine wx_getp dX11_comes_26 lk_RX11_57 e1 rfl ?_
      obtain ⟨e2, w⟩ := w
      refine wx_geti dX11_comes_29 lk_RX11_245 e2 rfl ?_
      refine wx_ic_ge (tgt := 47) dX11_comes_32 rfl (fun c => ?_) (fun c => ?_)
      · rw [if_pos c] at w
        exact wx_throw rfl dX11_comes_47 dX11_comes_50 dX11_comes_51 dX11_comes_53 dX11_comes_56 (by decide) (by show 6 ≤ d + 5 + 1; omega) (Nat.le_refl _) (Nat.le_refl _) w
      · rw [if_neg c] at w
        refine wx_aload_n dX11_comes_35 rfl ?_
        refine wx_getp dX11_comes_36 lk_RX11_57 e1 rfl ?_
        refine wx_getp dX11_comes_39 lk_RX11_242 e2 rfl ?_
        refine wx_iload_n dX11_comes_42 rfl ?_
        obtain ⟨e3, w⟩ := w
        refine wx_callV (As := [.int l2]) (st := []) dX11_comes_43 mt_X6_at g_892 g_724 g_725 rfl e3 rfl rfl (Nat.le_of_ble_eq_true rfl) (Nat.le_refl _) ⟨Nat.zero_le _, Nat.zero_le _⟩ w ?_
        rintro v h6 ⟨r5, rfl, w⟩
        exact wx_ireturn dX11_comes_46 rfl rfl ⟨Nat.zero_le _, Nat.zero_le _⟩ w
set_option maxRecDepth 20000 in
set_option maxHeartbeats 4000000 in
theorem x_X11_away {G : pm_G} {d : Nat} {post : pm_PT} {px : pm_H → Prop} {h : pm_H} {l0 : Nat} {l1 : Int32} {l2 : Int32} (w :
    (h.1[l0]? = some (0, 10)) ∧
    ci G (d + 5) m_X11_shutHeap [.ref l0, .int l1] h fun r1 h2 =>
    if r1 = 0 then (
      px h2
    ) else (
      (h2.1[l0]? = some (0, 10)) ∧
      ci G (d + 5) m_X11_isItem [.ref l0, .int l2] h2 fun r3 h4 =>
      if r3 = 0 then (
        px h4
      ) else (
        (h4.1[l0]? = some (0, 10)) ∧
        (h4.1[gp h4 l0 6]? = some (0, 0)) ∧
        (h4.1[gp h4 (gp h4 l0 6) 13]? = some (0, 6)) ∧
        ci G (d + 5) m_X6_at [.ref (gp h4 (gp h4 l0 6) 13), .int l2] h4 fun r5 h6 =>
        if r5 = l1 then (
          (h6.1[l0]? = some (0, 10)) ∧
          (h6.1[gp h6 l0 7]? = some (0, 8)) ∧
          cv G (d + 5) m_X8_takeAll [.ref (gp h6 l0 7), .ref (gp h6 l0 6), .int l1] h6 fun h8 =>
          (h8.1[l0]? = some (0, 10)) ∧
          (h8.1[gp h8 l0 7]? = some (0, 8)) ∧
          ci G (d + 5) m_X8_awayOf [.ref (gp h8 l0 7), .int l2] h8 fun r9 h10 =>
          post (some (.int r9)) h10
        ) else (
          px h6
        )
      )
    )) :
    WpX G px (m_X11_away, d + 5 + 1, 1, 6, post) (0, 0) 0 [.ref l0, .int l1, .int l2] [] h := by
  refine wx_aload_n dX11_away_0 rfl ?_
  refine wx_iload_n dX11_away_1 rfl ?_
  obtain ⟨e1, w⟩ := w
  refine wx_callV (As := [.int l1]) (st := []) dX11_away_2 mt_X11_shutHeap g_1046 g_1048 g_42 rfl e1 rfl rfl (Nat.le_of_ble_eq_true rfl) (Nat.le_refl _) ⟨Nat.zero_le _, Nat.zero_le _⟩ w ?_
  rintro v h2 ⟨r1, rfl, w⟩
  refine wx_if_eq (tgt := 52) dX11_away_5 rfl (fun c => ?_) (fun c => ?_)
  · rw [if_pos c] at w
    exact wx_throwW rfl dX11_away_52 dX11_away_55 dX11_away_56 dX11_away_59 dX11_away_62 (by decide) (by show 6 ≤ d + 5 + 1; omega) (Nat.le_refl _) (Nat.le_refl _) w
  · rw [if_neg c] at w
    refine wx_aload_n dX11_away_8 rfl ?_
    refine wx_iload_n dX11_away_9 rfl ?_
    obtain ⟨e1, w⟩ := w
    refine wx_callV (As := [.int l2]) (st := []) dX11_away_10 mt_X11_isItem g_888 g_890 g_33 rfl e1 rfl rfl (Nat.le_of_ble_eq_true rfl) (Nat.le_refl _) ⟨Nat.zero_le _, Nat.zero_le _⟩ w ?_
    rintro v h4 ⟨r3, rfl, w⟩
    refine wx_if_eq (tgt := 52) dX11_away_13 rfl (fun c => ?_) (fun c => ?_)
    · rw [if_pos c] at w
      exact wx_throwW rfl dX11_away_52 dX11_away_55 dX11_away_56 dX11_away_59 dX11_away_62 (by decide) (by show 6 ≤ d + 5 + 1; omega) (Nat.le_refl _) (Nat.le_refl _) w
    · rw [if_neg c] at w
      refine wx_aload_n dX11_away_16 rfl ?_
      obtain ⟨e1, w⟩ := w
      refine wx_getp dX11_away_17 lk_RX11_50 e1 rfl ?_
      obtain ⟨e2, w⟩ := w
      refine wx_getp dX11_away_20 lk_RX11_135 e2 rfl ?_
      refine wx_iload_n dX11_away_23 rfl ?_
      obtain ⟨e3, w⟩ := w
      refine wx_callV (As := [.int l2]) (st := []) dX11_away_24 mt_X6_at g_892 g_724 g_725 rfl e3 rfl rfl (Nat.le_of_ble_eq_true rfl) (Nat.le_refl _) ⟨Nat.zero_le _, Nat.zero_le _⟩ w ?_
      rintro v h6 ⟨r5, rfl, w⟩
      refine wx_iload_n dX11_away_27 rfl ?_
      refine wx_ic_ne (tgt := 52) dX11_away_28 rfl (fun c => ?_) (fun c => ?_)
      · rw [if_neg c] at w
        exact wx_throwW rfl dX11_away_52 dX11_away_55 dX11_away_56 dX11_away_59 dX11_away_62 (by decide) (by show 6 ≤ d + 5 + 1; omega) (Nat.le_refl _) (Nat.le_refl _) w
      · rw [if_pos c] at w
        refine wx_aload_n dX11_away_31 rfl ?_
        obtain ⟨e1, w⟩ := w
        refine wx_getp dX11_away_32 lk_RX11_57 e1 rfl ?_
        refine wx_aload_n dX11_away_35 rfl ?_
        refine wx_getp dX11_away_36 lk_RX11_50 e1 rfl ?_
        refine wx_iload_n dX11_away_39 rfl ?_
        obtain ⟨e2, w⟩ := w
        refine wx_callV (As := [.ref (gp h6 l0 6), .int l1]) (st := []) dX11_away_40 mt_X8_takeAll g_1050 g_1051 g_1052 rfl e2 rfl rfl (Nat.le_of_ble_eq_true rfl) (Nat.le_refl _) ⟨Nat.zero_le _, Nat.zero_le _⟩ w ?_
        rintro v h8 ⟨rfl, w⟩
        refine wx_aload_n dX11_away_43 rfl ?_
        obtain ⟨e1, w⟩ := w
        refine wx_getp dX11_away_44 lk_RX11_57 e1 rfl ?_
        refine wx_iload_n dX11_away_47 rfl ?_
        obtain ⟨e2, w⟩ := w
        refine wx_callV (As := [.int l2]) (st := []) dX11_away_48 mt_X8_awayOf g_1314 g_1075 g_1076 rfl e2 rfl rfl (Nat.le_of_ble_eq_true rfl) (Nat.le_refl _) ⟨Nat.zero_le _, Nat.zero_le _⟩ w ?_
        rintro v h10 ⟨r9, rfl, w⟩
        exact wx_ireturn dX11_away_51 rfl rfl ⟨Nat.zero_le _, Nat.zero_le _⟩ w
