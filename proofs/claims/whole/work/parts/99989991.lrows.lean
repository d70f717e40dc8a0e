set_option linter.all false
/-! THE LAW: rows -/
set_option maxRecDepth 20000 in
set_option maxHeartbeats 4000000 in
theorem x_L_law {G : pm_G} {d : Nat} {post : pm_PT} {h : pm_H} (w :
    (h.1.length < 1000) ∧
    ∀ h1 : pm_H, h1 = pm_nw h (0, 10) →
    (h1.1[h.1.length]? = some (0, 10)) ∧
    ca G d m_X11_init 445 8774 [.ref h.1.length] h1 fun h3 =>
    (h3.1.length < 1000) ∧
    ∀ h4 : pm_H, h4 = pm_nw h3 (0, 11) →
    (h4.1[h3.1.length]? = some (0, 11)) ∧
    ca G d m_X12_init 16 11273 [.ref h3.1.length] h4 fun h6 =>
    (h6.1.length < 1000) ∧
    ∀ h7 : pm_H, h7 = pm_nw h6 (2, 1) →
    Wp G ((yL_law, cL_law, 7, (Option.some Jvm.ClassFile.FieldType.boolean)), d + 1, 601024, 7293034, post) (464, 20090) 23 [.ref 1200, .ref h.1.length, .ref h3.1.length, .ref h6.1.length, .int 0, .null, .null] [] h7) :
    Wp G ((yL_law, cL_law, 7, (Option.some Jvm.ClassFile.FieldType.boolean)), d + 1, 601024, 7293034, post) (0, 0) 0 [.ref 1200, .null, .null, .null, .null, .null, .null] [] h := by
  obtain ⟨e1, w⟩ := w
  refine w_new (N := 17) dL_law_0 (by rfl : vwCl[10]? = some (RX11, TX11, 17)) g_153 g_154 g_133 e1 (by first | omega | decide | exact Nat.le_refl _ | (simp; done) | (simp; omega)) (by first | omega | decide | exact Nat.le_refl _ | (simp; done) | (simp; omega)) ?_
  have w := w _ rfl
  refine w_dup dL_law_3 rfl ?_
  obtain ⟨e1, w⟩ := w
  refine w_callI (As := []) (st := [.ref h.1.length]) dL_law_4 mt_X11_init (Or.inl g_155) g_156 rfl rfl rfl e1 rfl (Nat.le_of_ble_eq_true rfl) (Nat.le_refl _) ⟨by first | omega | decide | exact Nat.le_refl _ | (simp; done) | (simp; omega), by first | omega | decide | exact Nat.le_refl _ | (simp; done) | (simp; omega)⟩ w ?_
  rintro v h3 ⟨rfl, w⟩
  refine v_astore_n (l' := [.ref 1200, .ref h.1.length, .null, .null, .null, .null, .null]) dL_law_7 (Nat.le_of_ble_eq_true rfl) rfl ?_
  obtain ⟨e1, w⟩ := w
  refine w_new (N := 25) dL_law_8 (by rfl : vwCl[11]? = some (RX12, TX12, 25)) g_1329 g_1327 g_146 e1 (by first | omega | decide | exact Nat.le_refl _ | (simp; done) | (simp; omega)) (by first | omega | decide | exact Nat.le_refl _ | (simp; done) | (simp; omega)) ?_
  have w := w _ rfl
  refine w_dup dL_law_11 rfl ?_
  obtain ⟨e1, w⟩ := w
  refine w_callI (As := []) (st := [.ref h3.1.length]) dL_law_12 mt_X12_init (Or.inl g_1330) g_1331 rfl rfl rfl e1 rfl (Nat.le_of_ble_eq_true rfl) (Nat.le_refl _) ⟨by first | omega | decide | exact Nat.le_refl _ | (simp; done) | (simp; omega), by first | omega | decide | exact Nat.le_refl _ | (simp; done) | (simp; omega)⟩ w ?_
  rintro v h6 ⟨rfl, w⟩
  refine v_astore_n (l' := [.ref 1200, .ref h.1.length, .ref h3.1.length, .null, .null, .null, .null]) dL_law_15 (Nat.le_of_ble_eq_true rfl) rfl ?_
  refine w_iconst (v := 1) dL_law_16 rfl ?_
  obtain ⟨e1, w⟩ := w
  refine w_newarr (t := 1) (N := 1) dL_law_17 (by simp) g_233 (by decide) rfl (by decide) e1 (by first | omega | decide | exact Nat.le_refl _ | (simp; done) | (simp; omega)) (by first | omega | decide | exact Nat.le_refl _ | (simp; done) | (simp; omega)) ?_
  have w := w _ rfl
  refine v_astore_n (l' := [.ref 1200, .ref h.1.length, .ref h3.1.length, .ref h6.1.length, .null, .null, .null]) dL_law_19 (Nat.le_of_ble_eq_true rfl) rfl ?_
  refine w_iconst (v := 0) dL_law_20 rfl ?_
  refine v_istore (l' := [.ref 1200, .ref h.1.length, .ref h3.1.length, .ref h6.1.length, .int 0, .null, .null]) dL_law_21 (Nat.le_of_ble_eq_true rfl) rfl ?_
  exact w
set_option maxRecDepth 20000 in
set_option maxHeartbeats 4000000 in
theorem x_L_law_23 {G : pm_G} {d : Nat} {post : pm_PT} {h : pm_H} {k1 k2 : Nat} {l1 : Nat} {l2 : Nat} {l3 : Nat} {l4 : Int32} (hk1 : k1 ≤ 601024) (hk2 : k2 ≤ 7293034) (w :
    if ((Int32.ofNat (gN G)) - 7) < l4 then (
      (k1 ≤ 601024) ∧
      (k2 ≤ 7293034) ∧
      post (some (.int 1)) h
    ) else (
      (vp_in l4 (gN G)) ∧
      if ((gX G (l4 : Int32).toNatClampNeg) &&& 63) = 0 then (
        Wp G ((yL_law, cL_law, 7, (Option.some Jvm.ClassFile.FieldType.boolean)), d + 1, 601024, 7293034, post) (k1, k2) 196 [.ref 1200, .ref l1, .ref l2, .ref l3, .int l4, .null, .null] [] h
      ) else (
      if ((gX G (l4 : Int32).toNatClampNeg) &&& 63) = 1 then (
        Wp G ((yL_law, cL_law, 7, (Option.some Jvm.ClassFile.FieldType.boolean)), d + 1, 601024, 7293034, post) (k1, k2) 343 [.ref 1200, .ref l1, .ref l2, .ref l3, .int l4, .null, .null] [] h
      ) else (
      if ((gX G (l4 : Int32).toNatClampNeg) &&& 63) = 2 then (
        Wp G ((yL_law, cL_law, 7, (Option.some Jvm.ClassFile.FieldType.boolean)), d + 1, 601024, 7293034, post) (k1, k2) 356 [.ref 1200, .ref l1, .ref l2, .ref l3, .int l4, .null, .null] [] h
      ) else (
      if ((gX G (l4 : Int32).toNatClampNeg) &&& 63) = 3 then (
        Wp G ((yL_law, cL_law, 7, (Option.some Jvm.ClassFile.FieldType.boolean)), d + 1, 601024, 7293034, post) (k1, k2) 369 [.ref 1200, .ref l1, .ref l2, .ref l3, .int l4, .null, .null] [] h
      ) else (
      if ((gX G (l4 : Int32).toNatClampNeg) &&& 63) = 4 then (
        Wp G ((yL_law, cL_law, 7, (Option.some Jvm.ClassFile.FieldType.boolean)), d + 1, 601024, 7293034, post) (k1, k2) 406 [.ref 1200, .ref l1, .ref l2, .ref l3, .int l4, .null, .null] [] h
      ) else (
      if ((gX G (l4 : Int32).toNatClampNeg) &&& 63) = 5 then (
        Wp G ((yL_law, cL_law, 7, (Option.some Jvm.ClassFile.FieldType.boolean)), d + 1, 601024, 7293034, post) (k1, k2) 443 [.ref 1200, .ref l1, .ref l2, .ref l3, .int l4, .null, .null] [] h
      ) else (
      if ((gX G (l4 : Int32).toNatClampNeg) &&& 63) = 6 then (
        Wp G ((yL_law, cL_law, 7, (Option.some Jvm.ClassFile.FieldType.boolean)), d + 1, 601024, 7293034, post) (k1, k2) 492 [.ref 1200, .ref l1, .ref l2, .ref l3, .int l4, .null, .null] [] h
      ) else (
      if ((gX G (l4 : Int32).toNatClampNeg) &&& 63) = 7 then (
        Wp G ((yL_law, cL_law, 7, (Option.some Jvm.ClassFile.FieldType.boolean)), d + 1, 601024, 7293034, post) (k1, k2) 541 [.ref 1200, .ref l1, .ref l2, .ref l3, .int l4, .null, .null] [] h
      ) else (
      if ((gX G (l4 : Int32).toNatClampNeg) &&& 63) = 8 then (
        Wp G ((yL_law, cL_law, 7, (Option.some Jvm.ClassFile.FieldType.boolean)), d + 1, 601024, 7293034, post) (k1, k2) 566 [.ref 1200, .ref l1, .ref l2, .ref l3, .int l4, .null, .null] [] h
      ) else (
      if ((gX G (l4 : Int32).toNatClampNeg) &&& 63) = 9 then (
        Wp G ((yL_law, cL_law, 7, (Option.some Jvm.ClassFile.FieldType.boolean)), d + 1, 601024, 7293034, post) (k1, k2) 603 [.ref 1200, .ref l1, .ref l2, .ref l3, .int l4, .null, .null] [] h
      ) else (
      if ((gX G (l4 : Int32).toNatClampNeg) &&& 63) = 10 then (
        Wp G ((yL_law, cL_law, 7, (Option.some Jvm.ClassFile.FieldType.boolean)), d + 1, 601024, 7293034, post) (k1, k2) 628 [.ref 1200, .ref l1, .ref l2, .ref l3, .int l4, .null, .null] [] h
      ) else (
      if ((gX G (l4 : Int32).toNatClampNeg) &&& 63) = 11 then (
        Wp G ((yL_law, cL_law, 7, (Option.some Jvm.ClassFile.FieldType.boolean)), d + 1, 601024, 7293034, post) (k1, k2) 665 [.ref 1200, .ref l1, .ref l2, .ref l3, .int l4, .null, .null] [] h
      ) else (
      if ((gX G (l4 : Int32).toNatClampNeg) &&& 63) = 12 then (
        Wp G ((yL_law, cL_law, 7, (Option.some Jvm.ClassFile.FieldType.boolean)), d + 1, 601024, 7293034, post) (k1, k2) 702 [.ref 1200, .ref l1, .ref l2, .ref l3, .int l4, .null, .null] [] h
      ) else (
      if ((gX G (l4 : Int32).toNatClampNeg) &&& 63) = 13 then (
        Wp G ((yL_law, cL_law, 7, (Option.some Jvm.ClassFile.FieldType.boolean)), d + 1, 601024, 7293034, post) (k1, k2) 715 [.ref 1200, .ref l1, .ref l2, .ref l3, .int l4, .null, .null] [] h
      ) else (
      if ((gX G (l4 : Int32).toNatClampNeg) &&& 63) = 14 then (
        Wp G ((yL_law, cL_law, 7, (Option.some Jvm.ClassFile.FieldType.boolean)), d + 1, 601024, 7293034, post) (k1, k2) 740 [.ref 1200, .ref l1, .ref l2, .ref l3, .int l4, .null, .null] [] h
      ) else (
      if ((gX G (l4 : Int32).toNatClampNeg) &&& 63) = 15 then (
        Wp G ((yL_law, cL_law, 7, (Option.some Jvm.ClassFile.FieldType.boolean)), d + 1, 601024, 7293034, post) (k1, k2) 765 [.ref 1200, .ref l1, .ref l2, .ref l3, .int l4, .null, .null] [] h
      ) else (
      if ((gX G (l4 : Int32).toNatClampNeg) &&& 63) = 16 then (
        Wp G ((yL_law, cL_law, 7, (Option.some Jvm.ClassFile.FieldType.boolean)), d + 1, 601024, 7293034, post) (k1, k2) 833 [.ref 1200, .ref l1, .ref l2, .ref l3, .int l4, .null, .null] [] h
      ) else (
      if ((gX G (l4 : Int32).toNatClampNeg) &&& 63) = 17 then (
        Wp G ((yL_law, cL_law, 7, (Option.some Jvm.ClassFile.FieldType.boolean)), d + 1, 601024, 7293034, post) (k1, k2) 901 [.ref 1200, .ref l1, .ref l2, .ref l3, .int l4, .null, .null] [] h
      ) else (
      if ((gX G (l4 : Int32).toNatClampNeg) &&& 63) = 18 then (
        Wp G ((yL_law, cL_law, 7, (Option.some Jvm.ClassFile.FieldType.boolean)), d + 1, 601024, 7293034, post) (k1, k2) 926 [.ref 1200, .ref l1, .ref l2, .ref l3, .int l4, .null, .null] [] h
      ) else (
      if ((gX G (l4 : Int32).toNatClampNeg) &&& 63) = 19 then (
        Wp G ((yL_law, cL_law, 7, (Option.some Jvm.ClassFile.FieldType.boolean)), d + 1, 601024, 7293034, post) (k1, k2) 951 [.ref 1200, .ref l1, .ref l2, .ref l3, .int l4, .null, .null] [] h
      ) else (
      if ((gX G (l4 : Int32).toNatClampNeg) &&& 63) = 20 then (
        Wp G ((yL_law, cL_law, 7, (Option.some Jvm.ClassFile.FieldType.boolean)), d + 1, 601024, 7293034, post) (k1, k2) 988 [.ref 1200, .ref l1, .ref l2, .ref l3, .int l4, .null, .null] [] h
      ) else (
      if ((gX G (l4 : Int32).toNatClampNeg) &&& 63) = 21 then (
        Wp G ((yL_law, cL_law, 7, (Option.some Jvm.ClassFile.FieldType.boolean)), d + 1, 601024, 7293034, post) (k1, k2) 1025 [.ref 1200, .ref l1, .ref l2, .ref l3, .int l4, .null, .null] [] h
      ) else (
      if ((gX G (l4 : Int32).toNatClampNeg) &&& 63) = 22 then (
        Wp G ((yL_law, cL_law, 7, (Option.some Jvm.ClassFile.FieldType.boolean)), d + 1, 601024, 7293034, post) (k1, k2) 1062 [.ref 1200, .ref l1, .ref l2, .ref l3, .int l4, .null, .null] [] h
      ) else (
      if ((gX G (l4 : Int32).toNatClampNeg) &&& 63) = 23 then (
        Wp G ((yL_law, cL_law, 7, (Option.some Jvm.ClassFile.FieldType.boolean)), d + 1, 601024, 7293034, post) (k1, k2) 1087 [.ref 1200, .ref l1, .ref l2, .ref l3, .int l4, .null, .null] [] h
      ) else (
      if ((gX G (l4 : Int32).toNatClampNeg) &&& 63) = 24 then (
        Wp G ((yL_law, cL_law, 7, (Option.some Jvm.ClassFile.FieldType.boolean)), d + 1, 601024, 7293034, post) (k1, k2) 1112 [.ref 1200, .ref l1, .ref l2, .ref l3, .int l4, .null, .null] [] h
      ) else (
      if ((gX G (l4 : Int32).toNatClampNeg) &&& 63) = 25 then (
        Wp G ((yL_law, cL_law, 7, (Option.some Jvm.ClassFile.FieldType.boolean)), d + 1, 601024, 7293034, post) (k1, k2) 1137 [.ref 1200, .ref l1, .ref l2, .ref l3, .int l4, .null, .null] [] h
      ) else (
      if ((gX G (l4 : Int32).toNatClampNeg) &&& 63) = 26 then (
        Wp G ((yL_law, cL_law, 7, (Option.some Jvm.ClassFile.FieldType.boolean)), d + 1, 601024, 7293034, post) (k1, k2) 1162 [.ref 1200, .ref l1, .ref l2, .ref l3, .int l4, .null, .null] [] h
      ) else (
      if ((gX G (l4 : Int32).toNatClampNeg) &&& 63) = 27 then (
        Wp G ((yL_law, cL_law, 7, (Option.some Jvm.ClassFile.FieldType.boolean)), d + 1, 601024, 7293034, post) (k1, k2) 1187 [.ref 1200, .ref l1, .ref l2, .ref l3, .int l4, .null, .null] [] h
      ) else (
      if ((gX G (l4 : Int32).toNatClampNeg) &&& 63) = 28 then (
        Wp G ((yL_law, cL_law, 7, (Option.some Jvm.ClassFile.FieldType.boolean)), d + 1, 601024, 7293034, post) (k1, k2) 1212 [.ref 1200, .ref l1, .ref l2, .ref l3, .int l4, .null, .null] [] h
      ) else (
      if ((gX G (l4 : Int32).toNatClampNeg) &&& 63) = 29 then (
        Wp G ((yL_law, cL_law, 7, (Option.some Jvm.ClassFile.FieldType.boolean)), d + 1, 601024, 7293034, post) (k1, k2) 1237 [.ref 1200, .ref l1, .ref l2, .ref l3, .int l4, .null, .null] [] h
      ) else (
      if ((gX G (l4 : Int32).toNatClampNeg) &&& 63) = 30 then (
        Wp G ((yL_law, cL_law, 7, (Option.some Jvm.ClassFile.FieldType.boolean)), d + 1, 601024, 7293034, post) (k1, k2) 1302 [.ref 1200, .ref l1, .ref l2, .ref l3, .int l4, .null, .null] [] h
      ) else (
      if ((gX G (l4 : Int32).toNatClampNeg) &&& 63) = 31 then (
        Wp G ((yL_law, cL_law, 7, (Option.some Jvm.ClassFile.FieldType.boolean)), d + 1, 601024, 7293034, post) (k1, k2) 1315 [.ref 1200, .ref l1, .ref l2, .ref l3, .int l4, .null, .null] [] h
      ) else (
      if ((gX G (l4 : Int32).toNatClampNeg) &&& 63) = 32 then (
        Wp G ((yL_law, cL_law, 7, (Option.some Jvm.ClassFile.FieldType.boolean)), d + 1, 601024, 7293034, post) (k1, k2) 1328 [.ref 1200, .ref l1, .ref l2, .ref l3, .int l4, .null, .null] [] h
      ) else (
      if ((gX G (l4 : Int32).toNatClampNeg) &&& 63) = 33 then (
        Wp G ((yL_law, cL_law, 7, (Option.some Jvm.ClassFile.FieldType.boolean)), d + 1, 601024, 7293034, post) (k1, k2) 1377 [.ref 1200, .ref l1, .ref l2, .ref l3, .int l4, .null, .null] [] h
      ) else (
      if ((gX G (l4 : Int32).toNatClampNeg) &&& 63) = 34 then (
        Wp G ((yL_law, cL_law, 7, (Option.some Jvm.ClassFile.FieldType.boolean)), d + 1, 601024, 7293034, post) (k1, k2) 1430 [.ref 1200, .ref l1, .ref l2, .ref l3, .int l4, .null, .null] [] h
      ) else (
      Wp G ((yL_law, cL_law, 7, (Option.some Jvm.ClassFile.FieldType.boolean)), d + 1, 601024, 7293034, post) (k1, k2) 23 [.ref 1200, .ref l1, .ref l2, .ref l3, .int (l4 + 7), .null, .null] [] h
      )))))))))))))))))))))))))))))))))))
    )) :
    Wp G ((yL_law, cL_law, 7, (Option.some Jvm.ClassFile.FieldType.boolean)), d + 1, 601024, 7293034, post) (k1, k2) 23 [.ref 1200, .ref l1, .ref l2, .ref l3, .int l4, .null, .null] [] h := by
  refine w_iload dL_law_23 rfl ?_
  refine w_aload_n dL_law_25 rfl ?_
  refine w_slen dL_law_26 ?_
  refine w_bipush (v := 7) dL_law_27 rfl ?_
  refine w_isub dL_law_29 ?_
  refine w_ic_gt (tgt := 1461) dL_law_30 rfl (fun c => ?_) (fun c => ?_)
  · rw [if_pos c] at w
    refine w_iconst (v := 1) dL_law_1461 rfl ?_
    obtain ⟨e1, w⟩ := w
    obtain ⟨e2, w⟩ := w
    exact w_ireturn dL_law_1462 rfl rfl ⟨e1, e2⟩ w
  · rw [if_neg c] at w
    refine w_aload_n dL_law_33 rfl ?_
    refine w_iload dL_law_34 rfl ?_
    obtain ⟨e1, w⟩ := w
    refine w_sald dL_law_36 e1 ?_
    refine w_bipush (v := 63) dL_law_37 rfl ?_
    refine w_iand dL_law_39 ?_
    have sw : ((gX G (l4 : Int32).toNatClampNeg) &&& 63 : Int32).toInt < 0 ∨ 34 < ((gX G (l4 : Int32).toNatClampNeg) &&& 63 : Int32).toInt ∨ ((gX G (l4 : Int32).toNatClampNeg) &&& 63 : Int32).toInt = 0 ∨ ((gX G (l4 : Int32).toNatClampNeg) &&& 63 : Int32).toInt = 1 ∨ ((gX G (l4 : Int32).toNatClampNeg) &&& 63 : Int32).toInt = 2 ∨ ((gX G (l4 : Int32).toNatClampNeg) &&& 63 : Int32).toInt = 3 ∨ ((gX G (l4 : Int32).toNatClampNeg) &&& 63 : Int32).toInt = 4 ∨ ((gX G (l4 : Int32).toNatClampNeg) &&& 63 : Int32).toInt = 5 ∨ ((gX G (l4 : Int32).toNatClampNeg) &&& 63 : Int32).toInt = 6 ∨ ((gX G (l4 : Int32).toNatClampNeg) &&& 63 : Int32).toInt = 7 ∨ ((gX G (l4 : Int32).toNatClampNeg) &&& 63 : Int32).toInt = 8 ∨ ((gX G (l4 : Int32).toNatClampNeg) &&& 63 : Int32).toInt = 9 ∨ ((gX G (l4 : Int32).toNatClampNeg) &&& 63 : Int32).toInt = 10 ∨ ((gX G (l4 : Int32).toNatClampNeg) &&& 63 : Int32).toInt = 11 ∨ ((gX G (l4 : Int32).toNatClampNeg) &&& 63 : Int32).toInt = 12 ∨ ((gX G (l4 : Int32).toNatClampNeg) &&& 63 : Int32).toInt = 13 ∨ ((gX G (l4 : Int32).toNatClampNeg) &&& 63 : Int32).toInt = 14 ∨ ((gX G (l4 : Int32).toNatClampNeg) &&& 63 : Int32).toInt = 15 ∨ ((gX G (l4 : Int32).toNatClampNeg) &&& 63 : Int32).toInt = 16 ∨ ((gX G (l4 : Int32).toNatClampNeg) &&& 63 : Int32).toInt = 17 ∨ ((gX G (l4 : Int32).toNatClampNeg) &&& 63 : Int32).toInt = 18 ∨ ((gX G (l4 : Int32).toNatClampNeg) &&& 63 : Int32).toInt = 19 ∨ ((gX G (l4 : Int32).toNatClampNeg) &&& 63 : Int32).toInt = 20 ∨ ((gX G (l4 : Int32).toNatClampNeg) &&& 63 : Int32).toInt = 21 ∨ ((gX G (l4 : Int32).toNatClampNeg) &&& 63 : Int32).toInt = 22 ∨ ((gX G (l4 : Int32).toNatClampNeg) &&& 63 : Int32).toInt = 23 ∨ ((gX G (l4 : Int32).toNatClampNeg) &&& 63 : Int32).toInt = 24 ∨ ((gX G (l4 : Int32).toNatClampNeg) &&& 63 : Int32).toInt = 25 ∨ ((gX G (l4 : Int32).toNatClampNeg) &&& 63 : Int32).toInt = 26 ∨ ((gX G (l4 : Int32).toNatClampNeg) &&& 63 : Int32).toInt = 27 ∨ ((gX G (l4 : Int32).toNatClampNeg) &&& 63 : Int32).toInt = 28 ∨ ((gX G (l4 : Int32).toNatClampNeg) &&& 63 : Int32).toInt = 29 ∨ ((gX G (l4 : Int32).toNatClampNeg) &&& 63 : Int32).toInt = 30 ∨ ((gX G (l4 : Int32).toNatClampNeg) &&& 63 : Int32).toInt = 31 ∨ ((gX G (l4 : Int32).toNatClampNeg) &&& 63 : Int32).toInt = 32 ∨ ((gX G (l4 : Int32).toNatClampNeg) &&& 63 : Int32).toInt = 33 ∨ ((gX G (l4 : Int32).toNatClampNeg) &&& 63 : Int32).toInt = 34 := by omega
    rcases sw with sw | sw | sw | sw | sw | sw | sw | sw | sw | sw | sw | sw | sw | sw | sw | sw | sw | sw | sw | sw | sw | sw | sw | sw | sw | sw | sw | sw | sw | sw | sw | sw | sw | sw | sw | sw | sw
    · refine w_tsw (tgt := 1455) dL_law_40 (by rw [if_pos (by first | exact Or.inl sw | exact Or.inr sw)]; rfl) (by first | exact Or.inl sw | exact Or.inr (Or.inl sw)) ?_
      rw [if_neg (fun q => by rw [q] at sw; revert sw; decide)] at w
      rw [if_neg (fun q => by rw [q] at sw; revert sw; decide)] at w
      rw [if_neg (fun q => by rw [q] at sw; revert sw; decide)] at w
      rw [if_neg (fun q => by rw [q] at sw; revert sw; decide)] at w
      rw [if_neg (fun q => by rw [q] at sw; revert sw; decide)] at w
      rw [if_neg (fun q => by rw [q] at sw; revert sw; decide)] at w
      rw [if_neg (fun q => by rw [q] at sw; revert sw; decide)] at w
      rw [if_neg (fun q => by rw [q] at sw; revert sw; decide)] at w
      rw [if_neg (fun q => by rw [q] at sw; revert sw; decide)] at w
      rw [if_neg (fun q => by rw [q] at sw; revert sw; decide)] at w
      rw [if_neg (fun q => by rw [q] at sw; revert sw; decide)] at w
      rw [if_neg (fun q => by rw [q] at sw; revert sw; decide)] at w
      rw [if_neg (fun q => by rw [q] at sw; revert sw; decide)] at w
      rw [if_neg (fun q => by rw [q] at sw; revert sw; decide)] at w
      rw [if_neg (fun q => by rw [q] at sw; revert sw; decide)] at w
      rw [if_neg (fun q => by rw [q] at sw; revert sw; decide)] at w
      rw [if_neg (fun q => by rw [q] at sw; revert sw; decide)] at w
      rw [if_neg (fun q => by rw [q] at sw; revert sw; decide)] at w
      rw [if_neg (fun q => by rw [q] at sw; revert sw; decide)] at w
      rw [if_neg (fun q => by rw [q] at sw; revert sw; decide)] at w
      rw [if_neg (fun q => by rw [q] at sw; revert sw; decide)] at w
      rw [if_neg (fun q => by rw [q] at sw; revert sw; decide)] at w
      rw [if_neg (fun q => by rw [q] at sw; revert sw; decide)] at w
      rw [if_neg (fun q => by rw [q] at sw; revert sw; decide)] at w
      rw [if_neg (fun q => by rw [q] at sw; revert sw; decide)] at w
      rw [if_neg (fun q => by rw [q] at sw; revert sw; decide)] at w
      rw [if_neg (fun q => by rw [q] at sw; revert sw; decide)] at w
      rw [if_neg (fun q => by rw [q] at sw; revert sw; decide)] at w
      rw [if_neg (fun q => by rw [q] at sw; revert sw; decide)] at w
      rw [if_neg (fun q => by rw [q] at sw; revert sw; decide)] at w
      rw [if_neg (fun q => by rw [q] at sw; revert sw; decide)] at w
      rw [if_neg (fun q => by rw [q] at sw; revert sw; decide)] at w
      rw [if_neg (fun q => by rw [q] at sw; revert sw; decide)] at w
      rw [if_neg (fun q => by rw [q] at sw; revert sw; decide)] at w
      rw [if_neg (fun q => by rw [q] at sw; revert sw; decide)] at w
      refine v_iinc (l' := [.ref 1200, .ref l1, .ref l2, .ref l3, .int (l4 + 7), .null, .null]) (v := l4 + 7) dL_law_1455 rfl rfl (Nat.le_of_ble_eq_true rfl) rfl ?_
      refine w_goto (tgt := 23) dL_law_1458 rfl ?_
      exact w
    · refine w_tsw (tgt := 1455) dL_law_40 (by rw [if_pos (by first | exact Or.inl sw | exact Or.inr sw)]; rfl) (by first | exact Or.inl sw | exact Or.inr (Or.inl sw)) ?_
      rw [if_neg (fun q => by rw [q] at sw; revert sw; decide)] at w
      rw [if_neg (fun q => by rw [q] at sw; revert sw; decide)] at w
      rw [if_neg (fun q => by rw [q] at sw; revert sw; decide)] at w
      rw [if_neg (fun q => by rw [q] at sw; revert sw; decide)] at w
      rw [if_neg (fun q => by rw [q] at sw; revert sw; decide)] at w
      rw [if_neg (fun q => by rw [q] at sw; revert sw; decide)] at w
      rw [if_neg (fun q => by rw [q] at sw; revert sw; decide)] at w
      rw [if_neg (fun q => by rw [q] at sw; revert sw; decide)] at w
      rw [if_neg (fun q => by rw [q] at sw; revert sw; decide)] at w
      rw [if_neg (fun q => by rw [q] at sw; revert sw; decide)] at w
      rw [if_neg (fun q => by rw [q] at sw; revert sw; decide)] at w
      rw [if_neg (fun q => by rw [q] at sw; revert sw; decide)] at w
      rw [if_neg (fun q => by rw [q] at sw; revert sw; decide)] at w
      rw [if_neg (fun q => by rw [q] at sw; revert sw; decide)] at w
      rw [if_neg (fun q => by rw [q] at sw; revert sw; decide)] at w
      rw [if_neg (fun q => by rw [q] at sw; revert sw; decide)] at w
      rw [if_neg (fun q => by rw [q] at sw; revert sw; decide)] at w
      rw [if_neg (fun q => by rw [q] at sw; revert sw; decide)] at w
      rw [if_neg (fun q => by rw [q] at sw; revert sw; decide)] at w
      rw [if_neg (fun q => by rw [q] at sw; revert sw; decide)] at w
      rw [if_neg (fun q => by rw [q] at sw; revert sw; decide)] at w
      rw [if_neg (fun q => by rw [q] at sw; revert sw; decide)] at w
      rw [if_neg (fun q => by rw [q] at sw; revert sw; decide)] at w
      rw [if_neg (fun q => by rw [q] at sw; revert sw; decide)] at w
      rw [if_neg (fun q => by rw [q] at sw; revert sw; decide)] at w
      rw [if_neg (fun q => by rw [q] at sw; revert sw; decide)] at w
      rw [if_neg (fun q => by rw [q] at sw; revert sw; decide)] at w
      rw [if_neg (fun q => by rw [q] at sw; revert sw; decide)] at w
      rw [if_neg (fun q => by rw [q] at sw; revert sw; decide)] at w
      rw [if_neg (fun q => by rw [q] at sw; revert sw; decide)] at w
      rw [if_neg (fun q => by rw [q] at sw; revert sw; decide)] at w
      rw [if_neg (fun q => by rw [q] at sw; revert sw; decide)] at w
      rw [if_neg (fun q => by rw [q] at sw; revert sw; decide)] at w
      rw [if_neg (fun q => by rw [q] at sw; revert sw; decide)] at w
      rw [if_neg (fun q => by rw [q] at sw; revert sw; decide)] at w
      refine v_iinc (l' := [.ref 1200, .ref l1, .ref l2, .ref l3, .int (l4 + 7), .null, .null]) (v := l4 + 7) dL_law_1455 rfl rfl (Nat.le_of_ble_eq_true rfl) rfl ?_
      refine w_goto (tgt := 23) dL_law_1458 rfl ?_
      exact w
    · have sv : ((gX G (l4 : Int32).toNatClampNeg) &&& 63 : Int32) = 0 := Int32.toInt_inj.mp (sw.trans (by decide))
      refine w_tsw (tgt := 196) dL_law_40 (by rw [sw]; rfl) (by rw [sw]; decide) ?_
      rw [if_pos sv] at w
      exact w
    · have sv : ((gX G (l4 : Int32).toNatClampNeg) &&& 63 : Int32) = 1 := Int32.toInt_inj.mp (sw.trans (by decide))
      refine w_tsw (tgt := 343) dL_law_40 (by rw [sw]; rfl) (by rw [sw]; decide) ?_
      rw [if_neg (fun q => by rw [q] at sw; revert sw; decide)] at w
      rw [if_pos sv] at w
      exact w
    · have sv : ((gX G (l4 : Int32).toNatClampNeg) &&& 63 : Int32) = 2 := Int32.toInt_inj.mp (sw.trans (by decide))
      refine w_tsw (tgt := 356) dL_law_40 (by rw [sw]; rfl) (by rw [sw]; decide) ?_
      rw [if_neg (fun q => by rw [q] at sw; revert sw; decide)] at w
      rw [if_neg (fun q => by rw [q] at sw; revert sw; decide)] at w
      rw [if_pos sv] at w
      exact w
    · have sv : ((gX G (l4 : Int32).toNatClampNeg) &&& 63 : Int32) = 3 := Int32.toInt_inj.mp (sw.trans (by decide))
      refine w_tsw (tgt := 369) dL_law_40 (by rw [sw]; rfl) (by rw [sw]; decide) ?_
      rw [if_neg (fun q => by rw [q] at sw; revert sw; decide)] at w
      rw [if_neg (fun q => by rw [q] at sw; revert sw; decide)] at w
      rw [if_neg (fun q => by rw [q] at sw; revert sw; decide)] at w
      rw [if_pos sv] at w
      exact w
    · have sv : ((gX G (l4 : Int32).toNatClampNeg) &&& 63 : Int32) = 4 := Int32.toInt_inj.mp (sw.trans (by decide))
      refine w_tsw (tgt := 406) dL_law_40 (by rw [sw]; rfl) (by rw [sw]; decide) ?_
      rw [if_neg (fun q => by rw [q] at sw; revert sw; decide)] at w
      rw [if_neg (fun q => by rw [q] at sw; revert sw; decide)] at w
      rw [if_neg (fun q => by rw [q] at sw; revert sw; decide)] at w
      rw [if_neg (fun q => by rw [q] at sw; revert sw; decide)] at w
      rw [if_pos sv] at w
      exact w
    · have sv : ((gX G (l4 : Int32).toNatClampNeg) &&& 63 : Int32) = 5 := Int32.toInt_inj.mp (sw.trans (by decide))
      refine w_tsw (tgt := 443) dL_law_40 (by rw [sw]; rfl) (by rw [sw]; decide) ?_
      rw [if_neg (fun q => by rw [q] at sw; revert sw; decide)] at w
      rw [if_neg (fun q => by rw [q] at sw; revert sw; decide)] at w
      rw [if_neg (fun q => by rw [q] at sw; revert sw; decide)] at w
      rw [if_neg (fun q => by rw [q] at sw; revert sw; decide)] at w
      rw [if_neg (fun q => by rw [q] at sw; revert sw; decide)] at w
      rw [if_pos sv] at w
      exact w
    · have sv : ((gX G (l4 : Int32).toNatClampNeg) &&& 63 : Int32) = 6 := Int32.toInt_inj.mp (sw.trans (by decide))
      refine w_tsw (tgt := 492) dL_law_40 (by rw [sw]; rfl) (by rw [sw]; decide) ?_
      rw [if_neg (fun q => by rw [q] at sw; revert sw; decide)] at w
      rw [if_neg (fun q => by rw [q] at sw; revert sw; decide)] at w
      rw [if_neg (fun q => by rw [q] at sw; revert sw; decide)] at w
      rw [if_neg (fun q => by rw [q] at sw; revert sw; decide)] at w
      rw [if_neg (fun q => by rw [q] at sw; revert sw; decide)] at w
      rw [if_neg (fun q => by rw [q] at sw; revert sw; decide)] at w
      rw [if_pos sv] at w
      exact w
    · have sv : ((gX G (l4 : Int32).toNatClampNeg) &&& 63 : Int32) = 7 := Int32.toInt_inj.mp (sw.trans (by decide))
      refine w_tsw (tgt := 541) dL_law_40 (by rw [sw]; rfl) (by rw [sw]; decide) ?_
      rw [if_neg (fun q => by rw [q] at sw; revert sw; decide)] at w
      rw [if_neg (fun q => by rw [q] at sw; revert sw; decide)] at w
      rw [if_neg (fun q => by rw [q] at sw; revert sw; decide)] at w
      rw [if_neg (fun q => by rw [q] at sw; revert sw; decide)] at w
      rw [if_neg (fun q => by rw [q] at sw; revert sw; decide)] at w
      rw [if_neg (fun q => by rw [q] at sw; revert sw; decide)] at w
      rw [if_neg (fun q => by rw [q] at sw; revert sw; decide)] at w
      rw [if_pos sv] at w
      exact w
    · have sv : ((gX G (l4 : Int32).toNatClampNeg) &&& 63 : Int32) = 8 := Int32.toInt_inj.mp (sw.trans (by decide))
      refine w_tsw (tgt := 566) dL_law_40 (by rw [sw]; rfl) (by rw [sw]; decide) ?_
      rw [if_neg (fun q => by rw [q] at sw; revert sw; decide)] at w
      rw [if_neg (fun q => by rw [q] at sw; revert sw; decide)] at w
      rw [if_neg (fun q => by rw [q] at sw; revert sw; decide)] at w
      rw [if_neg (fun q => by rw [q] at sw; revert sw; decide)] at w
      rw [if_neg (fun q => by rw [q] at sw; revert sw; decide)] at w
      rw [if_neg (fun q => by rw [q] at sw; revert sw; decide)] at w
      rw [if_neg (fun q => by rw [q] at sw; revert sw; decide)] at w
      rw [if_neg (fun q => by rw [q] at sw; revert sw; decide)] at w
      rw [if_pos sv] at w
      exact w
    · have sv : ((gX G (l4 : Int32).toNatClampNeg) &&& 63 : Int32) = 9 := Int32.toInt_inj.mp (sw.trans (by decide))
      refine w_tsw (tgt := 603) dL_law_40 (by rw [sw]; rfl) (by rw [sw]; decide) ?_
      rw [if_neg (fun q => by rw [q] at sw; revert sw; decide)] at w
      rw [if_neg (fun q => by rw [q] at sw; revert sw; decide)] at w
      rw [if_neg (fun q => by rw [q] at sw; revert sw; decide)] at w
      rw [if_neg (fun q => by rw [q] at sw; revert sw; decide)] at w
      rw [if_neg (fun q => by rw [q] at sw; revert sw; decide)] at w
      rw [if_neg (fun q => by rw [q] at sw; revert sw; decide)] at w
      rw [if_neg (fun q => by rw [q] at sw; revert sw; decide)] at w
      rw [if_neg (fun q => by rw [q] at sw; revert sw; decide)] at w
      rw [if_neg (fun q => by rw [q] at sw; revert sw; decide)] at w
      rw [if_pos sv] at w
      exact w
    · have sv : ((gX G (l4 : Int32).toNatClampNeg) &&& 63 : Int32) = 10 := Int32.toInt_inj.mp (sw.trans (by decide))
      refine w_tsw (tgt := 628) dL_law_40 (by rw [sw]; rfl) (by rw [sw]; decide) ?_
      rw [if_neg (fun q => by rw [q] at sw; revert sw; decide)] at w
      rw [if_neg (fun q => by rw [q] at sw; revert sw; decide)] at w
      rw [if_neg (fun q => by rw [q] at sw; revert sw; decide)] at w
      rw [if_neg (fun q => by rw [q] at sw; revert sw; decide)] at w
      rw [if_neg (fun q => by rw [q] at sw; revert sw; decide)] at w
      rw [if_neg (fun q => by rw [q] at sw; revert sw; decide)] at w
      rw [if_neg (fun q => by rw [q] at sw; revert sw; decide)] at w
      rw [if_neg (fun q => by rw [q] at sw; revert sw; decide)] at w
      rw [if_neg (fun q => by rw [q] at sw; revert sw; decide)] at w
      rw [if_neg (fun q => by rw [q] at sw; revert sw; decide)] at w
      rw [if_pos sv] at w
      exact w
    · have sv : ((gX G (l4 : Int32).toNatClampNeg) &&& 63 : Int32) = 11 := Int32.toInt_inj.mp (sw.trans (by decide))
      refine w_tsw (tgt := 665) dL_law_40 (by rw [sw]; rfl) (by rw [sw]; decide) ?_
      rw [if_neg (fun q => by rw [q] at sw; revert sw; decide)] at w
      rw [if_neg (fun q => by rw [q] at sw; revert sw; decide)] at w
      rw [if_neg (fun q => by rw [q] at sw; revert sw; decide)] at w
      rw [if_neg (fun q => by rw [q] at sw; revert sw; decide)] at w
      rw [if_neg (fun q => by rw [q] at sw; revert sw; decide)] at w
      rw [if_neg (fun q => by rw [q] at sw; revert sw; decide)] at w
      rw [if_neg (fun q => by rw [q] at sw; revert sw; decide)] at w
      rw [if_neg (fun q => by rw [q] at sw; revert sw; decide)] at w
      rw [if_neg (fun q => by rw [q] at sw; revert sw; decide)] at w
      rw [if_neg (fun q => by rw [q] at sw; revert sw; decide)] at w
      rw [if_neg (fun q => by rw [q] at sw; revert sw; decide)] at w
      rw [if_pos sv] at w
      exact w
    · have sv : ((gX G (l4 : Int32).toNatClampNeg) &&& 63 : Int32) = 12 := Int32.toInt_inj.mp (sw.trans (by decide))
      refine w_tsw (tgt := 702) dL_law_40 (by rw [sw]; rfl) (by rw [sw]; decide) ?_
      rw [if_neg (fun q => by rw [q] at sw; revert sw; decide)] at w
      rw [if_neg (fun q => by rw [q] at sw; revert sw; decide)] at w
      rw [if_neg (fun q => by rw [q] at sw; revert sw; decide)] at w
      rw [if_neg (fun q => by rw [q] at sw; revert sw; decide)] at w
      rw [if_neg (fun q => by rw [q] at sw; revert sw; decide)] at w
      rw [if_neg (fun q => by rw [q] at sw; revert sw; decide)] at w
      rw [if_neg (fun q => by rw [q] at sw; revert sw; decide)] at w
      rw [if_neg (fun q => by rw [q] at sw; revert sw; decide)] at w
      rw [if_neg (fun q => by rw [q] at sw; revert sw; decide)] at w
      rw [if_neg (fun q => by rw [q] at sw; revert sw; decide)] at w
      rw [if_neg (fun q => by rw [q] at sw; revert sw; decide)] at w
      rw [if_neg (fun q => by rw [q] at sw; revert sw; decide)] at w
      rw [if_pos sv] at w
      exact w
    · have sv : ((gX G (l4 : Int32).toNatClampNeg) &&& 63 : Int32) = 13 := Int32.toInt_inj.mp (sw.trans (by decide))
      refine w_tsw (tgt := 715) dL_law_40 (by rw [sw]; rfl) (by rw [sw]; decide) ?_
      rw [if_neg (fun q => by rw [q] at sw; revert sw; decide)] at w
      rw [if_neg (fun q => by rw [q] at sw; revert sw; decide)] at w
      rw [if_neg (fun q => by rw [q] at sw; revert sw; decide)] at w
      rw [if_neg (fun q => by rw [q] at sw; revert sw; decide)] at w
      rw [if_neg (fun q => by rw [q] at sw; revert sw; decide)] at w
      rw [if_neg (fun q => by rw [q] at sw; revert sw; decide)] at w
      rw [if_neg (fun q => by rw [q] at sw; revert sw; decide)] at w
      rw [if_neg (fun q => by rw [q] at sw; revert sw; decide)] at w
      rw [if_neg (fun q => by rw [q] at sw; revert sw; decide)] at w
      rw [if_neg (fun q => by rw [q] at sw; revert sw; decide)] at w
      rw [if_neg (fun q => by rw [q] at sw; revert sw; decide)] at w
      rw [if_neg (fun q => by rw [q] at sw; revert sw; decide)] at w
      rw [if_neg (fun q => by rw [q] at sw; revert sw; decide)] at w
      rw [if_pos sv] at w
      exact w
    · have sv : ((gX G (l4 : Int32).toNatClampNeg) &&& 63 : Int32) = 14 := Int32.toInt_inj.mp (sw.trans (by decide))
      refine w_tsw (tgt := 740) dL_law_40 (by rw [sw]; rfl) (by rw [sw]; decide) ?_
      rw [if_neg (fun q => by rw [q] at sw; revert sw; decide)] at w
      rw [if_neg (fun q => by rw [q] at sw; revert sw; decide)] at w
      rw [if_neg (fun q => by rw [q] at sw; revert sw; decide)] at w
      rw [if_neg (fun q => by rw [q] at sw; revert sw; decide)] at w
      rw [if_neg (fun q => by rw [q] at sw; revert sw; decide)] at w
      rw [if_neg (fun q => by rw [q] at sw; revert sw; decide)] at w
      rw [if_neg (fun q => by rw [q] at sw; revert sw; decide)] at w
      rw [if_neg (fun q => by rw [q] at sw; revert sw; decide)] at w
      rw [if_neg (fun q => by rw [q] at sw; revert sw; decide)] at w
      rw [if_neg (fun q => by rw [q] at sw; revert sw; decide)] at w
      rw [if_neg (fun q => by rw [q] at sw; revert sw; decide)] at w
      rw [if_neg (fun q => by rw [q] at sw; revert sw; decide)] at w
      rw [if_neg (fun q => by rw [q] at sw; revert sw; decide)] at w
      rw [if_neg (fun q => by rw [q] at sw; revert sw; decide)] at w
      rw [if_pos sv] at w
      exact w
    · have sv : ((gX G (l4 : Int32).toNatClampNeg) &&& 63 : Int32) = 15 := Int32.toInt_inj.mp (sw.trans (by decide))
      refine w_tsw (tgt := 765) dL_law_40 (by rw [sw]; rfl) (by rw [sw]; decide) ?_
      rw [if_neg (fun q => by rw [q] at sw; revert sw; decide)] at w
      rw [if_neg (fun q => by rw [q] at sw; revert sw; decide)] at w
      rw [if_neg (fun q => by rw [q] at sw; revert sw; decide)] at w
      rw [if_neg (fun q => by rw [q] at sw; revert sw; decide)] at w
      rw [if_neg (fun q => by rw [q] at sw; revert sw; decide)] at w
      rw [if_neg (fun q => by rw [q] at sw; revert sw; decide)] at w
      rw [if_neg (fun q => by rw [q] at sw; revert sw; decide)] at w
      rw [if_neg (fun q => by rw [q] at sw; revert sw; decide)] at w
      rw [if_neg (fun q => by rw [q] at sw; revert sw; decide)] at w
      rw [if_neg (fun q => by rw [q] at sw; revert sw; decide)] at w
      rw [if_neg (fun q => by rw [q] at sw; revert sw; decide)] at w
      rw [if_neg (fun q => by rw [q] at sw; revert sw; decide)] at w
      rw [if_neg (fun q => by rw [q] at sw; revert sw; decide)] at w
      rw [if_neg (fun q => by rw [q] at sw; revert sw; decide)] at w
      rw [if_neg (fun q => by rw [q] at sw; revert sw; decide)] at w
      rw [if_pos sv] at w
      exact w
    · have sv : ((gX G (l4 : Int32).toNatClampNeg) &&& 63 : Int32) = 16 := Int32.toInt_inj.mp (sw.trans (by decide))
      refine w_tsw (tgt := 833) dL_law_40 (by rw [sw]; rfl) (by rw [sw]; decide) ?_
      rw [if_neg (fun q => by rw [q] at sw; revert sw; decide)] at w
      rw [if_neg (fun q => by rw [q] at sw; revert sw; decide)] at w
      rw [if_neg (fun q => by rw [q] at sw; revert sw; decide)] at w
      rw [if_neg (fun q => by rw [q] at sw; revert sw; decide)] at w
      rw [if_neg (fun q => by rw [q] at sw; revert sw; decide)] at w
      rw [if_neg (fun q => by rw [q] at sw; revert sw; decide)] at w
      rw [if_neg (fun q => by rw [q] at sw; revert sw; decide)] at w
      rw [if_neg (fun q => by rw [q] at sw; revert sw; decide)] at w
      rw [if_neg (fun q => by rw [q] at sw; revert sw; decide)] at w
      rw [if_neg (fun q => by rw [q] at sw; revert sw; decide)] at w
      rw [if_neg (fun q => by rw [q] at sw; revert sw; decide)] at w
      rw [if_neg (fun q => by rw [q] at sw; revert sw; decide)] at w
      rw [if_neg (fun q => by rw [q] at sw; revert sw; decide)] at w
      rw [if_neg (fun q => by rw [q] at sw; revert sw; decide)] at w
      rw [if_neg (fun q => by rw [q] at sw; revert sw; decide)] at w
      rw [if_neg (fun q => by rw [q] at sw; revert sw; decide)] at w
      rw [if_pos sv] at w
      exact w
    · have sv : ((gX G (l4 : Int32).toNatClampNeg) &&& 63 : Int32) = 17 := Int32.toInt_inj.mp (sw.trans (by decide))
      refine w_tsw (tgt := 901) dL_law_40 (by rw [sw]; rfl) (by rw [sw]; decide) ?_
      rw [if_neg (fun q => by rw [q] at sw; revert sw; decide)] at w
      rw [if_neg (fun q => by rw [q] at sw; revert sw; decide)] at w
      rw [if_neg (fun q => by rw [q] at sw; revert sw; decide)] at w
      rw [if_neg (fun q => by rw [q] at sw; revert sw; decide)] at w
      rw [if_neg (fun q => by rw [q] at sw; revert sw; decide)] at w
      rw [if_neg (fun q => by rw [q] at sw; revert sw; decide)] at w
      rw [if_neg (fun q => by rw [q] at sw; revert sw; decide)] at w
      rw [if_neg (fun q => by rw [q] at sw; revert sw; decide)] at w
      rw [if_neg (fun q => by rw [q] at sw; revert sw; decide)] at w
      rw [if_neg (fun q => by rw [q] at sw; revert sw; decide)] at w
      rw [if_neg (fun q => by rw [q] at sw; revert sw; decide)] at w
      rw [if_neg (fun q => by rw [q] at sw; revert sw; decide)] at w
      rw [if_neg (fun q => by rw [q] at sw; revert sw; decide)] at w
      rw [if_neg (fun q => by rw [q] at sw; revert sw; decide)] at w
      rw [if_neg (fun q => by rw [q] at sw; revert sw; decide)] at w
      rw [if_neg (fun q => by rw [q] at sw; revert sw; decide)] at w
      rw [if_neg (fun q => by rw [q] at sw; revert sw; decide)] at w
      rw [if_pos sv] at w
      exact w
    · have sv : ((gX G (l4 : Int32).toNatClampNeg) &&& 63 : Int32) = 18 := Int32.toInt_inj.mp (sw.trans (by decide))
      refine w_tsw (tgt := 926) dL_law_40 (by rw [sw]; rfl) (by rw [sw]; decide) ?_
      rw [if_neg (fun q => by rw [q] at sw; revert sw; decide)] at w
      rw [if_neg (fun q => by rw [q] at sw; revert sw; decide)] at w
      rw [if_neg (fun q => by rw [q] at sw; revert sw; decide)] at w
      rw [if_neg (fun q => by rw [q] at sw; revert sw; decide)] at w
      rw [if_neg (fun q => by rw [q] at sw; revert sw; decide)] at w
      rw [if_neg (fun q => by rw [q] at sw; revert sw; decide)] at w
      rw [if_neg (fun q => by rw [q] at sw; revert sw; decide)] at w
      rw [if_neg (fun q => by rw [q] at sw; revert sw; decide)] at w
      rw [if_neg (fun q => by rw [q] at sw; revert sw; decide)] at w
      rw [if_neg (fun q => by rw [q] at sw; revert sw; decide)] at w
      rw [if_neg (fun q => by rw [q] at sw; revert sw; decide)] at w
      rw [if_neg (fun q => by rw [q] at sw; revert sw; decide)] at w
      rw [if_neg (fun q => by rw [q] at sw; revert sw; decide)] at w
      rw [if_neg (fun q => by rw [q] at sw; revert sw; decide)] at w
      rw [if_neg (fun q => by rw [q] at sw; revert sw; decide)] at w
      rw [if_neg (fun q => by rw [q] at sw; revert sw; decide)] at w
      rw [if_neg (fun q => by rw [q] at sw; revert sw; decide)] at w
      rw [if_neg (fun q => by rw [q] at sw; revert sw; decide)] at w
      rw [if_pos sv] at w
      exact w
    · have sv : ((gX G (l4 : Int32).toNatClampNeg) &&& 63 : Int32) = 19 := Int32.toInt_inj.mp (sw.trans (by decide))
      refine w_tsw (tgt := 951) dL_law_40 (by rw [sw]; rfl) (by rw [sw]; decide) ?_
      rw [if_neg (fun q => by rw [q] at sw; revert sw; decide)] at w
      rw [if_neg (fun q => by rw [q] at sw; revert sw; decide)] at w
      rw [if_neg (fun q => by rw [q] at sw; revert sw; decide)] at w
      rw [if_neg (fun q => by rw [q] at sw; revert sw; decide)] at w
      rw [if_neg (fun q => by rw [q] at sw; revert sw; decide)] at w
      rw [if_neg (fun q => by rw [q] at sw; revert sw; decide)] at w
      rw [if_neg (fun q => by rw [q] at sw; revert sw; decide)] at w
      rw [if_neg (fun q => by rw [q] at sw; revert sw; decide)] at w
      rw [if_neg (fun q => by rw [q] at sw; revert sw; decide)] at w
      rw [if_neg (fun q => by rw [q] at sw; revert sw; decide)] at w
      rw [if_neg (fun q => by rw [q] at sw; revert sw; decide)] at w
      rw [if_neg (fun q => by rw [q] at sw; revert sw; decide)] at w
      rw [if_neg (fun q => by rw [q] at sw; revert sw; decide)] at w
      rw [if_neg (fun q => by rw [q] at sw; revert sw; decide)] at w
      rw [if_neg (fun q => by rw [q] at sw; revert sw; decide)] at w
      rw [if_neg (fun q => by rw [q] at sw; revert sw; decide)] at w
      rw [if_neg (fun q => by rw [q] at sw; revert sw; decide)] at w
      rw [if_neg (fun q => by rw [q] at sw; revert sw; decide)] at w
      rw [if_neg (fun q => by rw [q] at sw; revert sw; decide)] at w
      rw [if_pos sv] at w
      exact w
    · have sv : ((gX G (l4 : Int32).toNatClampNeg) &&& 63 : Int32) = 20 := Int32.toInt_inj.mp (sw.trans (by decide))
      refine w_tsw (tgt := 988) dL_law_40 (by rw [sw]; rfl) (by rw [sw]; decide) ?_
      rw [if_neg (fun q => by rw [q] at sw; revert sw; decide)] at w
      rw [if_neg (fun q => by rw [q] at sw; revert sw; decide)] at w
      rw [if_neg (fun q => by rw [q] at sw; revert sw; decide)] at w
      rw [if_neg (fun q => by rw [q] at sw; revert sw; decide)] at w
      rw [if_neg (fun q => by rw [q] at sw; revert sw; decide)] at w
      rw [if_neg (fun q => by rw [q] at sw; revert sw; decide)] at w
      rw [if_neg (fun q => by rw [q] at sw; revert sw; decide)] at w
      rw [if_neg (fun q => by rw [q] at sw; revert sw; decide)] at w
      rw [if_neg (fun q => by rw [q] at sw; revert sw; decide)] at w
      rw [if_neg (fun q => by rw [q] at sw; revert sw; decide)] at w
      rw [if_neg (fun q => by rw [q] at sw; revert sw; decide)] at w
      rw [if_neg (fun q => by rw [q] at sw; revert sw; decide)] at w
      rw [if_neg (fun q => by rw [q] at sw; revert sw; decide)] at w
      rw [if_neg (fun q => by rw [q] at sw; revert sw; decide)] at w
      rw [if_neg (fun q => by rw [q] at sw; revert sw; decide)] at w
      rw [if_neg (fun q => by rw [q] at sw; revert sw; decide)] at w
      rw [if_neg (fun q => by rw [q] at sw; revert sw; decide)] at w
      rw [if_neg (fun q => by rw [q] at sw; revert sw; decide)] at w
      rw [if_neg (fun q => by rw [q] at sw; revert sw; decide)] at w
      rw [if_neg (fun q => by rw [q] at sw; revert sw; decide)] at w
      rw [if_pos sv] at w
      exact w
    · have sv : ((gX G (l4 : Int32).toNatClampNeg) &&& 63 : Int32) = 21 := Int32.toInt_inj.mp (sw.trans (by decide))
      refine w_tsw (tgt := 1025) dL_law_40 (by rw [sw]; rfl) (by rw [sw]; decide) ?_
      rw [if_neg (fun q => by rw [q] at sw; revert sw; decide)] at w
      rw [if_neg (fun q => by rw [q] at sw; revert sw; decide)] at w
      rw [if_neg (fun q => by rw [q] at sw; revert sw; decide)] at w
      rw [if_neg (fun q => by rw [q] at sw; revert sw; decide)] at w
      rw [if_neg (fun q => by rw [q] at sw; revert sw; decide)] at w
      rw [if_neg (fun q => by rw [q] at sw; revert sw; decide)] at w
      rw [if_neg (fun q => by rw [q] at sw; revert sw; decide)] at w
      rw [if_neg (fun q => by rw [q] at sw; revert sw; decide)] at w
      rw [if_neg (fun q => by rw [q] at sw; revert sw; decide)] at w
      rw [if_neg (fun q => by rw [q] at sw; revert sw; decide)] at w
      rw [if_neg (fun q => by rw [q] at sw; revert sw; decide)] at w
      rw [if_neg (fun q => by rw [q] at sw; revert sw; decide)] at w
      rw [if_neg (fun q => by rw [q] at sw; revert sw; decide)] at w
      rw [if_neg (fun q => by rw [q] at sw; revert sw; decide)] at w
      rw [if_neg (fun q => by rw [q] at sw; revert sw; decide)] at w
      rw [if_neg (fun q => by rw [q] at sw; revert sw; decide)] at w
      rw [if_neg (fun q => by rw [q] at sw; revert sw; decide)] at w
      rw [if_neg (fun q => by rw [q] at sw; revert sw; decide)] at w
      rw [if_neg (fun q => by rw [q] at sw; revert sw; decide)] at w
      rw [if_neg (fun q => by rw [q] at sw; revert sw; decide)] at w
      rw [if_neg (fun q => by rw [q] at sw; revert sw; decide)] at w
      rw [if_pos sv] at w
      exact w
    · have sv : ((gX G (l4 : Int32).toNatClampNeg) &&& 63 : Int32) = 22 := Int32.toInt_inj.mp (sw.trans (by decide))
      refine w_tsw (tgt := 1062) dL_law_40 (by rw [sw]; rfl) (by rw [sw]; decide) ?_
      rw [if_neg (fun q => by rw [q] at sw; revert sw; decide)] at w
      rw [if_neg (fun q => by rw [q] at sw; revert sw; decide)] at w
      rw [if_neg (fun q => by rw [q] at sw; revert sw; decide)] at w
      rw [if_neg (fun q => by rw [q] at sw; revert sw; decide)] at w
      rw [if_neg (fun q => by rw [q] at sw; revert sw; decide)] at w
      rw [if_neg (fun q => by rw [q] at sw; revert sw; decide)] at w
      rw [if_neg (fun q => by rw [q] at sw; revert sw; decide)] at w
      rw [if_neg (fun q => by rw [q] at sw; revert sw; decide)] at w
      rw [if_neg (fun q => by rw [q] at sw; revert sw; decide)] at w
      rw [if_neg (fun q => by rw [q] at sw; revert sw; decide)] at w
      rw [if_neg (fun q => by rw [q] at sw; revert sw; decide)] at w
      rw [if_neg (fun q => by rw [q] at sw; revert sw; decide)] at w
      rw [if_neg (fun q => by rw [q] at sw; revert sw; decide)] at w
      rw [if_neg (fun q => by rw [q] at sw; revert sw; decide)] at w
      rw [if_neg (fun q => by rw [q] at sw; revert sw; decide)] at w
      rw [if_neg (fun q => by rw [q] at sw; revert sw; decide)] at w
      rw [if_neg (fun q => by rw [q] at sw; revert sw; decide)] at w
      rw [if_neg (fun q => by rw [q] at sw; revert sw; decide)] at w
      rw [if_neg (fun q => by rw [q] at sw; revert sw; decide)] at w
      rw [if_neg (fun q => by rw [q] at sw; revert sw; decide)] at w
      rw [if_neg (fun q => by rw [q] at sw; revert sw; decide)] at w
      rw [if_neg (fun q => by rw [q] at sw; revert sw; decide)] at w
      rw [if_pos sv] at w
      exact w
    · have sv : ((gX G (l4 : Int32).toNatClampNeg) &&& 63 : Int32) = 23 := Int32.toInt_inj.mp (sw.trans (by decide))
      refine w_tsw (tgt := 1087) dL_law_40 (by rw [sw]; rfl) (by rw [sw]; decide) ?_
      rw [if_neg (fun q => by rw [q] at sw; revert sw; decide)] at w
      rw [if_neg (fun q => by rw [q] at sw; revert sw; decide)] at w
      rw [if_neg (fun q => by rw [q] at sw; revert sw; decide)] at w
      rw [if_neg (fun q => by rw [q] at sw; revert sw; decide)] at w
      rw [if_neg (fun q => by rw [q] at sw; revert sw; decide)] at w
      rw [if_neg (fun q => by rw [q] at sw; revert sw; decide)] at w
      rw [if_neg (fun q => by rw [q] at sw; revert sw; decide)] at w
      rw [if_neg (fun q => by rw [q] at sw; revert sw; decide)] at w
      rw [if_neg (fun q => by rw [q] at sw; revert sw; decide)] at w
      rw [if_neg (fun q => by rw [q] at sw; revert sw; decide)] at w
      rw [if_neg (fun q => by rw [q] at sw; revert sw; decide)] at w
      rw [if_neg (fun q => by rw [q] at sw; revert sw; decide)] at w
      rw [if_neg (fun q => by rw [q] at sw; revert sw; decide)] at w
      rw [if_neg (fun q => by rw [q] at sw; revert sw; decide)] at w
      rw [if_neg (fun q => by rw [q] at sw; revert sw; decide)] at w
      rw [if_neg (fun q => by rw [q] at sw; revert sw; decide)] at w
      rw [if_neg (fun q => by rw [q] at sw; revert sw; decide)] at w
      rw [if_neg (fun q => by rw [q] at sw; revert sw; decide)] at w
      rw [if_neg (fun q => by rw [q] at sw; revert sw; decide)] at w
      rw [if_neg (fun q => by rw [q] at sw; revert sw; decide)] at w
      rw [if_neg (fun q => by rw [q] at sw; revert sw; decide)] at w
      rw [if_neg (fun q => by rw [q] at sw; revert sw; decide)] at w
      rw [if_neg (fun q => by rw [q] at sw; revert sw; decide)] at w
      rw [if_pos sv] at w
      exact w
    · have sv : ((gX G (l4 : Int32).toNatClampNeg) &&& 63 : Int32) = 24 := Int32.toInt_inj.mp (sw.trans (by decide))
      refine w_tsw (tgt := 1112) dL_law_40 (by rw [sw]; rfl) (by rw [sw]; decide) ?_
      rw [if_neg (fun q => by rw [q] at sw; revert sw; decide)] at w
      rw [if_neg (fun q => by rw [q] at sw; revert sw; decide)] at w
      rw [if_neg (fun q => by rw [q] at sw; revert sw; decide)] at w
      rw [if_neg (fun q => by rw [q] at sw; revert sw; decide)] at w
      rw [if_neg (fun q => by rw [q] at sw; revert sw; decide)] at w
      rw [if_neg (fun q => by rw [q] at sw; revert sw; decide)] at w
      rw [if_neg (fun q => by rw [q] at sw; revert sw; decide)] at w
      rw [if_neg (fun q => by rw [q] at sw; revert sw; decide)] at w
      rw [if_neg (fun q => by rw [q] at sw; revert sw; decide)] at w
      rw [if_neg (fun q => by rw [q] at sw; revert sw; decide)] at w
      rw [if_neg (fun q => by rw [q] at sw; revert sw; decide)] at w
      rw [if_neg (fun q => by rw [q] at sw; revert sw; decide)] at w
      rw [if_neg (fun q => by rw [q] at sw; revert sw; decide)] at w
      rw [if_neg (fun q => by rw [q] at sw; revert sw; decide)] at w
      rw [if_neg (fun q => by rw [q] at sw; revert sw; decide)] at w
      rw [if_neg (fun q => by rw [q] at sw; revert sw; decide)] at w
      rw [if_neg (fun q => by rw [q] at sw; revert sw; decide)] at w
      rw [if_neg (fun q => by rw [q] at sw; revert sw; decide)] at w
      rw [if_neg (fun q => by rw [q] at sw; revert sw; decide)] at w
      rw [if_neg (fun q => by rw [q] at sw; revert sw; decide)] at w
      rw [if_neg (fun q => by rw [q] at sw; revert sw; decide)] at w
      rw [if_neg (fun q => by rw [q] at sw; revert sw; decide)] at w
      rw [if_neg (fun q => by rw [q] at sw; revert sw; decide)] at w
      rw [if_neg (fun q => by rw [q] at sw; revert sw; decide)] at w
      rw [if_pos sv] at w
      exact w
    · have sv : ((gX G (l4 : Int32).toNatClampNeg) &&& 63 : Int32) = 25 := Int32.toInt_inj.mp (sw.trans (by decide))
      refine w_tsw (tgt := 1137) dL_law_40 (by rw [sw]; rfl) (by rw [sw]; decide) ?_
      rw [if_neg (fun q => by rw [q] at sw; revert sw; decide)] at w
      rw [if_neg (fun q => by rw [q] at sw; revert sw; decide)] at w
      rw [if_neg (fun q => by rw [q] at sw; revert sw; decide)] at w
      rw [if_neg (fun q => by rw [q] at sw; revert sw; decide)] at w
      rw [if_neg (fun q => by rw [q] at sw; revert sw; decide)] at w
      rw [if_neg (fun q => by rw [q] at sw; revert sw; decide)] at w
      rw [if_neg (fun q => by rw [q] at sw; revert sw; decide)] at w
      rw [if_neg (fun q => by rw [q] at sw; revert sw; decide)] at w
      rw [if_neg (fun q => by rw [q] at sw; revert sw; decide)] at w
      rw [if_neg (fun q => by rw [q] at sw; revert sw; decide)] at w
      rw [if_neg (fun q => by rw [q] at sw; revert sw; decide)] at w
      rw [if_neg (fun q => by rw [q] at sw; revert sw; decide)] at w
      rw [if_neg (fun q => by rw [q] at sw; revert sw; decide)] at w
      rw [if_neg (fun q => by rw [q] at sw; revert sw; decide)] at w
      rw [if_neg (fun q => by rw [q] at sw; revert sw; decide)] at w
      rw [if_neg (fun q => by rw [q] at sw; revert sw; decide)] at w
      rw [if_neg (fun q => by rw [q] at sw; revert sw; decide)] at w
      rw [if_neg (fun q => by rw [q] at sw; revert sw; decide)] at w
      rw [if_neg (fun q => by rw [q] at sw; revert sw; decide)] at w
      rw [if_neg (fun q => by rw [q] at sw; revert sw; decide)] at w
      rw [if_neg (fun q => by rw [q] at sw; revert sw; decide)] at w
      rw [if_neg (fun q => by rw [q] at sw; revert sw; decide)] at w
      rw [if_neg (fun q => by rw [q] at sw; revert sw; decide)] at w
      rw [if_neg (fun q => by rw [q] at sw; revert sw; decide)] at w
      rw [if_neg (fun q => by rw [q] at sw; revert sw; decide)] at w
      rw [if_pos sv] at w
      exact w
    · have sv : ((gX G (l4 : Int32).toNatClampNeg) &&& 63 : Int32) = 26 := Int32.toInt_inj.mp (sw.trans (by decide))
      refine w_tsw (tgt := 1162) dL_law_40 (by rw [sw]; rfl) (by rw [sw]; decide) ?_
      rw [if_neg (fun q => by rw [q] at sw; revert sw; decide)] at w
      rw [if_neg (fun q => by rw [q] at sw; revert sw; decide)] at w
      rw [if_neg (fun q => by rw [q] at sw; revert sw; decide)] at w
      rw [if_neg (fun q => by rw [q] at sw; revert sw; decide)] at w
      rw [if_neg (fun q => by rw [q] at sw; revert sw; decide)] at w
      rw [if_neg (fun q => by rw [q] at sw; revert sw; decide)] at w
      rw [if_neg (fun q => by rw [q] at sw; revert sw; decide)] at w
      rw [if_neg (fun q => by rw [q] at sw; revert sw; decide)] at w
      rw [if_neg (fun q => by rw [q] at sw; revert sw; decide)] at w
      rw [if_neg (fun q => by rw [q] at sw; revert sw; decide)] at w
      rw [if_neg (fun q => by rw [q] at sw; revert sw; decide)] at w
      rw [if_neg (fun q => by rw [q] at sw; revert sw; decide)] at w
      rw [if_neg (fun q => by rw [q] at sw; revert sw; decide)] at w
      rw [if_neg (fun q => by rw [q] at sw; revert sw; decide)] at w
      rw [if_neg (fun q => by rw [q] at sw; revert sw; decide)] at w
      rw [if_neg (fun q => by rw [q] at sw; revert sw; decide)] at w
      rw [if_neg (fun q => by rw [q] at sw; revert sw; decide)] at w
      rw [if_neg (fun q => by rw [q] at sw; revert sw; decide)] at w
      rw [if_neg (fun q => by rw [q] at sw; revert sw; decide)] at w
      rw [if_neg (fun q => by rw [q] at sw; revert sw; decide)] at w
      rw [if_neg (fun q => by rw [q] at sw; revert sw; decide)] at w
      rw [if_neg (fun q => by rw [q] at sw; revert sw; decide)] at w
      rw [if_neg (fun q => by rw [q] at sw; revert sw; decide)] at w
      rw [if_neg (fun q => by rw [q] at sw; revert sw; decide)] at w
      rw [if_neg (fun q => by rw [q] at sw; revert sw; decide)] at w
      rw [if_neg (fun q => by rw [q] at sw; revert sw; decide)] at w
      rw [if_pos sv] at w
      exact w
    · have sv : ((gX G (l4 : Int32).toNatClampNeg) &&& 63 : Int32) = 27 := Int32.toInt_inj.mp (sw.trans (by decide))
      refine w_tsw (tgt := 1187) dL_law_40 (by rw [sw]; rfl) (by rw [sw]; decide) ?_
      rw [if_neg (fun q => by rw [q] at sw; revert sw; decide)] at w
      rw [if_neg (fun q => by rw [q] at sw; revert sw; decide)] at w
      rw [if_neg (fun q => by rw [q] at sw; revert sw; decide)] at w
      rw [if_neg (fun q => by rw [q] at sw; revert sw; decide)] at w
      rw [if_neg (fun q => by rw [q] at sw; revert sw; decide)] at w
      rw [if_neg (fun q => by rw [q] at sw; revert sw; decide)] at w
      rw [if_neg (fun q => by rw [q] at sw; revert sw; decide)] at w
      rw [if_neg (fun q => by rw [q] at sw; revert sw; decide)] at w
      rw [if_neg (fun q => by rw [q] at sw; revert sw; decide)] at w
      rw [if_neg (fun q => by rw [q] at sw; revert sw; decide)] at w
      rw [if_neg (fun q => by rw [q] at sw; revert sw; decide)] at w
      rw [if_neg (fun q => by rw [q] at sw; revert sw; decide)] at w
      rw [if_neg (fun q => by rw [q] at sw; revert sw; decide)] at w
      rw [if_neg (fun q => by rw [q] at sw; revert sw; decide)] at w
      rw [if_neg (fun q => by rw [q] at sw; revert sw; decide)] at w
      rw [if_neg (fun q => by rw [q] at sw; revert sw; decide)] at w
      rw [if_neg (fun q => by rw [q] at sw; revert sw; decide)] at w
      rw [if_neg (fun q => by rw [q] at sw; revert sw; decide)] at w
      rw [if_neg (fun q => by rw [q] at sw; revert sw; decide)] at w
      rw [if_neg (fun q => by rw [q] at sw; revert sw; decide)] at w
      rw [if_neg (fun q => by rw [q] at sw; revert sw; decide)] at w
      rw [if_neg (fun q => by rw [q] at sw; revert sw; decide)] at w
      rw [if_neg (fun q => by rw [q] at sw; revert sw; decide)] at w
      rw [if_neg (fun q => by rw [q] at sw; revert sw; decide)] at w
      rw [if_neg (fun q => by rw [q] at sw; revert sw; decide)] at w
      rw [if_neg (fun q => by rw [q] at sw; revert sw; decide)] at w
      rw [if_neg (fun q => by rw [q] at sw; revert sw; decide)] at w
      rw [if_pos sv] at w
      exact w
    · have sv : ((gX G (l4 : Int32).toNatClampNeg) &&& 63 : Int32) = 28 := Int32.toInt_inj.mp (sw.trans (by decide))
      refine w_tsw (tgt := 1212) dL_law_40 (by rw [sw]; rfl) (by rw [sw]; decide) ?_
      rw [if_neg (fun q => by rw [q] at sw; revert sw; decide)] at w
      rw [if_neg (fun q => by rw [q] at sw; revert sw; decide)] at w
      rw [if_neg (fun q => by rw [q] at sw; revert sw; decide)] at w
      rw [if_neg (fun q => by rw [q] at sw; revert sw; decide)] at w
      rw [if_neg (fun q => by rw [q] at sw; revert sw; decide)] at w
      rw [if_neg (fun q => by rw [q] at sw; revert sw; decide)] at w
      rw [if_neg (fun q => by rw [q] at sw; revert sw; decide)] at w
      rw [if_neg (fun q => by rw [q] at sw; revert sw; decide)] at w
      rw [if_neg (fun q => by rw [q] at sw; revert sw; decide)] at w
      rw [if_neg (fun q => by rw [q] at sw; revert sw; decide)] at w
      rw [if_neg (fun q => by rw [q] at sw; revert sw; decide)] at w
      rw [if_neg (fun q => by rw [q] at sw; revert sw; decide)] at w
      rw [if_neg (fun q => by rw [q] at sw; revert sw; decide)] at w
      rw [if_neg (fun q => by rw [q] at sw; revert sw; decide)] at w
      rw [if_neg (fun q => by rw [q] at sw; revert sw; decide)] at w
      rw [if_neg (fun q => by rw [q] at sw; revert sw; decide)] at w
      rw [if_neg (fun q => by rw [q] at sw; revert sw; decide)] at w
      rw [if_neg (fun q => by rw [q] at sw; revert sw; decide)] at w
      rw [if_neg (fun q => by rw [q] at sw; revert sw; decide)] at w
      rw [if_neg (fun q => by rw [q] at sw; revert sw; decide)] at w
      rw [if_neg (fun q => by rw [q] at sw; revert sw; decide)] at w
      rw [if_neg (fun q => by rw [q] at sw; revert sw; decide)] at w
      rw [if_neg (fun q => by rw [q] at sw; revert sw; decide)] at w
      rw [if_neg (fun q => by rw [q] at sw; revert sw; decide)] at w
      rw [if_neg (fun q => by rw [q] at sw; revert sw; decide)] at w
      rw [if_neg (fun q => by rw [q] at sw; revert sw; decide)] at w
      rw [if_neg (fun q => by rw [q] at sw; revert sw; decide)] at w
      rw [if_neg (fun q => by rw [q] at sw; revert sw; decide)] at w
      rw [if_pos sv] at w
      exact w
    · have sv : ((gX G (l4 : Int32).toNatClampNeg) &&& 63 : Int32) = 29 := Int32.toInt_inj.mp (sw.trans (by decide))
      refine w_tsw (tgt := 1237) dL_law_40 (by rw [sw]; rfl) (by rw [sw]; decide) ?_
      rw [if_neg (fun q => by rw [q] at sw; revert sw; decide)] at w
      rw [if_neg (fun q => by rw [q] at sw; revert sw; decide)] at w
      rw [if_neg (fun q => by rw [q] at sw; revert sw; decide)] at w
      rw [if_neg (fun q => by rw [q] at sw; revert sw; decide)] at w
      rw [if_neg (fun q => by rw [q] at sw; revert sw; decide)] at w
      rw [if_neg (fun q => by rw [q] at sw; revert sw; decide)] at w
      rw [if_neg (fun q => by rw [q] at sw; revert sw; decide)] at w
      rw [if_neg (fun q => by rw [q] at sw; revert sw; decide)] at w
      rw [if_neg (fun q => by rw [q] at sw; revert sw; decide)] at w
      rw [if_neg (fun q => by rw [q] at sw; revert sw; decide)] at w
      rw [if_neg (fun q => by rw [q] at sw; revert sw; decide)] at w
      rw [if_neg (fun q => by rw [q] at sw; revert sw; decide)] at w
      rw [if_neg (fun q => by rw [q] at sw; revert sw; decide)] at w
      rw [if_neg (fun q => by rw [q] at sw; revert sw; decide)] at w
      rw [if_neg (fun q => by rw [q] at sw; revert sw; decide)] at w
      rw [if_neg (fun q => by rw [q] at sw; revert sw; decide)] at w
      rw [if_neg (fun q => by rw [q] at sw; revert sw; decide)] at w
      rw [if_neg (fun q => by rw [q] at sw; revert sw; decide)] at w
      rw [if_neg (fun q => by rw [q] at sw; revert sw; decide)] at w
      rw [if_neg (fun q => by rw [q] at sw; revert sw; decide)] at w
      rw [if_neg (fun q => by rw [q] at sw; revert sw; decide)] at w
      rw [if_neg (fun q => by rw [q] at sw; revert sw; decide)] at w
      rw [if_neg (fun q => by rw [q] at sw; revert sw; decide)] at w
      rw [if_neg (fun q => by rw [q] at sw; revert sw; decide)] at w
      rw [if_neg (fun q => by rw [q] at sw; revert sw; decide)] at w
      rw [if_neg (fun q => by rw [q] at sw; revert sw; decide)] at w
      rw [if_neg (fun q => by rw [q] at sw; revert sw; decide)] at w
      rw [if_neg (fun q => by rw [q] at sw; revert sw; decide)] at w
      rw [if_neg (fun q => by rw [q] at sw; revert sw; decide)] at w
      rw [if_pos sv] at w
      exact w
    · have sv : ((gX G (l4 : Int32).toNatClampNeg) &&& 63 : Int32) = 30 := Int32.toInt_inj.mp (sw.trans (by decide))
      refine w_tsw (tgt := 1302) dL_law_40 (by rw [sw]; rfl) (by rw [sw]; decide) ?_
      rw [if_neg (fun q => by rw [q] at sw; revert sw; decide)] at w
      rw [if_neg (fun q => by rw [q] at sw; revert sw; decide)] at w
      rw [if_neg (fun q => by rw [q] at sw; revert sw; decide)] at w
      rw [if_neg (fun q => by rw [q] at sw; revert sw; decide)] at w
      rw [if_neg (fun q => by rw [q] at sw; revert sw; decide)] at w
      rw [if_neg (fun q => by rw [q] at sw; revert sw; decide)] at w
      rw [if_neg (fun q => by rw [q] at sw; revert sw; decide)] at w
      rw [if_neg (fun q => by rw [q] at sw; revert sw; decide)] at w
      rw [if_neg (fun q => by rw [q] at sw; revert sw; decide)] at w
      rw [if_neg (fun q => by rw [q] at sw; revert sw; decide)] at w
      rw [if_neg (fun q => by rw [q] at sw; revert sw; decide)] at w
      rw [if_neg (fun q => by rw [q] at sw; revert sw; decide)] at w
      rw [if_neg (fun q => by rw [q] at sw; revert sw; decide)] at w
      rw [if_neg (fun q => by rw [q] at sw; revert sw; decide)] at w
      rw [if_neg (fun q => by rw [q] at sw; revert sw; decide)] at w
      rw [if_neg (fun q => by rw [q] at sw; revert sw; decide)] at w
      rw [if_neg (fun q => by rw [q] at sw; revert sw; decide)] at w
      rw [if_neg (fun q => by rw [q] at sw; revert sw; decide)] at w
      rw [if_neg (fun q => by rw [q] at sw; revert sw; decide)] at w
      rw [if_neg (fun q => by rw [q] at sw; revert sw; decide)] at w
      rw [if_neg (fun q => by rw [q] at sw; revert sw; decide)] at w
      rw [if_neg (fun q => by rw [q] at sw; revert sw; decide)] at w
      rw [if_neg (fun q => by rw [q] at sw; revert sw; decide)] at w
      rw [if_neg (fun q => by rw [q] at sw; revert sw; decide)] at w
      rw [if_neg (fun q => by rw [q] at sw; revert sw; decide)] at w
      rw [if_neg (fun q => by rw [q] at sw; revert sw; decide)] at w
      rw [if_neg (fun q => by rw [q] at sw; revert sw; decide)] at w
      rw [if_neg (fun q => by rw [q] at sw; revert sw; decide)] at w
      rw [if_neg (fun q => by rw [q] at sw; revert sw; decide)] at w
      rw [if_neg (fun q => by rw [q] at sw; revert sw; decide)] at w
      rw [if_pos sv] at w
      exact w
    · have sv : ((gX G (l4 : Int32).toNatClampNeg) &&& 63 : Int32) = 31 := Int32.toInt_inj.mp (sw.trans (by decide))
      refine w_tsw (tgt := 1315) dL_law_40 (by rw [sw]; rfl) (by rw [sw]; decide) ?_
      rw [if_neg (fun q => by rw [q] at sw; revert sw; decide)] at w
      rw [if_neg (fun q => by rw [q] at sw; revert sw; decide)] at w
      rw [if_neg (fun q => by rw [q] at sw; revert sw; decide)] at w
      rw [if_neg (fun q => by rw [q] at sw; revert sw; decide)] at w
      rw [if_neg (fun q => by rw [q] at sw; revert sw; decide)] at w
      rw [if_neg (fun q => by rw [q] at sw; revert sw; decide)] at w
      rw [if_neg (fun q => by rw [q] at sw; revert sw; decide)] at w
      rw [if_neg (fun q => by rw [q] at sw; revert sw; decide)] at w
      rw [if_neg (fun q => by rw [q] at sw; revert sw; decide)] at w
      rw [if_neg (fun q => by rw [q] at sw; revert sw; decide)] at w
      rw [if_neg (fun q => by rw [q] at sw; revert sw; decide)] at w
      rw [if_neg (fun q => by rw [q] at sw; revert sw; decide)] at w
      rw [if_neg (fun q => by rw [q] at sw; revert sw; decide)] at w
      rw [if_neg (fun q => by rw [q] at sw; revert sw; decide)] at w
      rw [if_neg (fun q => by rw [q] at sw; revert sw; decide)] at w
      rw [if_neg (fun q => by rw [q] at sw; revert sw; decide)] at w
      rw [if_neg (fun q => by rw [q] at sw; revert sw; decide)] at w
      rw [if_neg (fun q => by rw [q] at sw; revert sw; decide)] at w
      rw [if_neg (fun q => by rw [q] at sw; revert sw; decide)] at w
      rw [if_neg (fun q => by rw [q] at sw; revert sw; decide)] at w
      rw [if_neg (fun q => by rw [q] at sw; revert sw; decide)] at w
      rw [if_neg (fun q => by rw [q] at sw; revert sw; decide)] at w
      rw [if_neg (fun q => by rw [q] at sw; revert sw; decide)] at w
      rw [if_neg (fun q => by rw [q] at sw; revert sw; decide)] at w
      rw [if_neg (fun q => by rw [q] at sw; revert sw; decide)] at w
      rw [if_neg (fun q => by rw [q] at sw; revert sw; decide)] at w
      rw [if_neg (fun q => by rw [q] at sw; revert sw; decide)] at w
      rw [if_neg (fun q => by rw [q] at sw; revert sw; decide)] at w
      rw [if_neg (fun q => by rw [q] at sw; revert sw; decide)] at w
      rw [if_neg (fun q => by rw [q] at sw; revert sw; decide)] at w
      rw [if_neg (fun q => by rw [q] at sw; revert sw; decide)] at w
      rw [if_pos sv] at w
      exact w
    · have sv : ((gX G (l4 : Int32).toNatClampNeg) &&& 63 : Int32) = 32 := Int32.toInt_inj.mp (sw.trans (by decide))
      refine w_tsw (tgt := 1328) dL_law_40 (by rw [sw]; rfl) (by rw [sw]; decide) ?_
      rw [if_neg (fun q => by rw [q] at sw; revert sw; decide)] at w
      rw [if_neg (fun q => by rw [q] at sw; revert sw; decide)] at w
      rw [if_neg (fun q => by rw [q] at sw; revert sw; decide)] at w
      rw [if_neg (fun q => by rw [q] at sw; revert sw; decide)] at w
      rw [if_neg (fun q => by rw [q] at sw; revert sw; decide)] at w
      rw [if_neg (fun q => by rw [q] at sw; revert sw; decide)] at w
      rw [if_neg (fun q => by rw [q] at sw; revert sw; decide)] at w
      rw [if_neg (fun q => by rw [q] at sw; revert sw; decide)] at w
      rw [if_neg (fun q => by rw [q] at sw; revert sw; decide)] at w
      rw [if_neg (fun q => by rw [q] at sw; revert sw; decide)] at w
      rw [if_neg (fun q => by rw [q] at sw; revert sw; decide)] at w
      rw [if_neg (fun q => by rw [q] at sw; revert sw; decide)] at w
      rw [if_neg (fun q => by rw [q] at sw; revert sw; decide)] at w
      rw [if_neg (fun q => by rw [q] at sw; revert sw; decide)] at w
      rw [if_neg (fun q => by rw [q] at sw; revert sw; decide)] at w
      rw [if_neg (fun q => by rw [q] at sw; revert sw; decide)] at w
      rw [if_neg (fun q => by rw [q] at sw; revert sw; decide)] at w
      rw [if_neg (fun q => by rw [q] at sw; revert sw; decide)] at w
      rw [if_neg (fun q => by rw [q] at sw; revert sw; decide)] at w
      rw [if_neg (fun q => by rw [q] at sw; revert sw; decide)] at w
      rw [if_neg (fun q => by rw [q] at sw; revert sw; decide)] at w
      rw [if_neg (fun q => by rw [q] at sw; revert sw; decide)] at w
      rw [if_neg (fun q => by rw [q] at sw; revert sw; decide)] at w
      rw [if_neg (fun q => by rw [q] at sw; revert sw; decide)] at w
      rw [if_neg (fun q => by rw [q] at sw; revert sw; decide)] at w
      rw [if_neg (fun q => by rw [q] at sw; revert sw; decide)] at w
      rw [if_neg (fun q => by rw [q] at sw; revert sw; decide)] at w
      rw [if_neg (fun q => by rw [q] at sw; revert sw; decide)] at w
      rw [if_neg (fun q => by rw [q] at sw; revert sw; decide)] at w
      rw [if_neg (fun q => by rw [q] at sw; revert sw; decide)] at w
      rw [if_neg (fun q => by rw [q] at sw; revert sw; decide)] at w
      rw [if_neg (fun q => by rw [q] at sw; revert sw; decide)] at w
      rw [if_pos sv] at w
      exact w
    · have sv : ((gX G (l4 : Int32).toNatClampNeg) &&& 63 : Int32) = 33 := Int32.toInt_inj.mp (sw.trans (by decide))
      refine w_tsw (tgt := 1377) dL_law_40 (by rw [sw]; rfl) (by rw [sw]; decide) ?_
      rw [if_neg (fun q => by rw [q] at sw; revert sw; decide)] at w
      rw [if_neg (fun q => by rw [q] at sw; revert sw; decide)] at w
      rw [if_neg (fun q => by rw [q] at sw; revert sw; decide)] at w
      rw [if_neg (fun q => by rw [q] at sw; revert sw; decide)] at w
      rw [if_neg (fun q => by rw [q] at sw; revert sw; decide)] at w
      rw [if_neg (fun q => by rw [q] at sw; revert sw; decide)] at w
      rw [if_neg (fun q => by rw [q] at sw; revert sw; decide)] at w
      rw [if_neg (fun q => by rw [q] at sw; revert sw; decide)] at w
      rw [if_neg (fun q => by rw [q] at sw; revert sw; decide)] at w
      rw [if_neg (fun q => by rw [q] at sw; revert sw; decide)] at w
      rw [if_neg (fun q => by rw [q] at sw; revert sw; decide)] at w
      rw [if_neg (fun q => by rw [q] at sw; revert sw; decide)] at w
      rw [if_neg (fun q => by rw [q] at sw; revert sw; decide)] at w
      rw [if_neg (fun q => by rw [q] at sw; revert sw; decide)] at w
      rw [if_neg (fun q => by rw [q] at sw; revert sw; decide)] at w
      rw [if_neg (fun q => by rw [q] at sw; revert sw; decide)] at w
      rw [if_neg (fun q => by rw [q] at sw; revert sw; decide)] at w
      rw [if_neg (fun q => by rw [q] at sw; revert sw; decide)] at w
      rw [if_neg (fun q => by rw [q] at sw; revert sw; decide)] at w
      rw [if_neg (fun q => by rw [q] at sw; revert sw; decide)] at w
      rw [if_neg (fun q => by rw [q] at sw; revert sw; decide)] at w
      rw [if_neg (fun q => by rw [q] at sw; revert sw; decide)] at w
      rw [if_neg (fun q => by rw [q] at sw; revert sw; decide)] at w
      rw [if_neg (fun q => by rw [q] at sw; revert sw; decide)] at w
      rw [if_neg (fun q => by rw [q] at sw; revert sw; decide)] at w
      rw [if_neg (fun q => by rw [q] at sw; revert sw; decide)] at w
      rw [if_neg (fun q => by rw [q] at sw; revert sw; decide)] at w
      rw [if_neg (fun q => by rw [q] at sw; revert sw; decide)] at w
      rw [if_neg (fun q => by rw [q] at sw; revert sw; decide)] at w
      rw [if_neg (fun q => by rw [q] at sw; revert sw; decide)] at w
      rw [if_neg (fun q => by rw [q] at sw; revert sw; decide)] at w
      rw [if_neg (fun q => by rw [q] at sw; revert sw; decide)] at w
      rw [if_neg (fun q => by rw [q] at sw; revert sw; decide)] at w
      rw [if_pos sv] at w
      exact w
    · have sv : ((gX G (l4 : Int32).toNatClampNeg) &&& 63 : Int32) = 34 := Int32.toInt_inj.mp (sw.trans (by decide))
      refine w_tsw (tgt := 1430) dL_law_40 (by rw [sw]; rfl) (by rw [sw]; decide) ?_
      rw [if_neg (fun q => by rw [q] at sw; revert sw; decide)] at w
      rw [if_neg (fun q => by rw [q] at sw; revert sw; decide)] at w
      rw [if_neg (fun q => by rw [q] at sw; revert sw; decide)] at w
      rw [if_neg (fun q => by rw [q] at sw; revert sw; decide)] at w
      rw [if_neg (fun q => by rw [q] at sw; revert sw; decide)] at w
      rw [if_neg (fun q => by rw [q] at sw; revert sw; decide)] at w
      rw [if_neg (fun q => by rw [q] at sw; revert sw; decide)] at w
      rw [if_neg (fun q => by rw [q] at sw; revert sw; decide)] at w
      rw [if_neg (fun q => by rw [q] at sw; revert sw; decide)] at w
      rw [if_neg (fun q => by rw [q] at sw; revert sw; decide)] at w
      rw [if_neg (fun q => by rw [q] at sw; revert sw; decide)] at w
      rw [if_neg (fun q => by rw [q] at sw; revert sw; decide)] at w
      rw [if_neg (fun q => by rw [q] at sw; revert sw; decide)] at w
      rw [if_neg (fun q => by rw [q] at sw; revert sw; decide)] at w
      rw [if_neg (fun q => by rw [q] at sw; revert sw; decide)] at w
      rw [if_neg (fun q => by rw [q] at sw; revert sw; decide)] at w
      rw [if_neg (fun q => by rw [q] at sw; revert sw; decide)] at w
      rw [if_neg (fun q => by rw [q] at sw; revert sw; decide)] at w
      rw [if_neg (fun q => by rw [q] at sw; revert sw; decide)] at w
      rw [if_neg (fun q => by rw [q] at sw; revert sw; decide)] at w
      rw [if_neg (fun q => by rw [q] at sw; revert sw; decide)] at w
      rw [if_neg (fun q => by rw [q] at sw; revert sw; decide)] at w
      rw [if_neg (fun q => by rw [q] at sw; revert sw; decide)] at w
      rw [if_neg (fun q => by rw [q] at sw; revert sw; decide)] at w
      rw [if_neg (fun q => by rw [q] at sw; revert sw; decide)] at w
      rw [if_neg (fun q => by rw [q] at sw; revert sw; decide)] at w
      rw [if_neg (fun q => by rw [q] at sw; revert sw; decide)] at w
      rw [if_neg (fun q => by rw [q] at sw; revert sw; decide)] at w
      rw [if_neg (fun q => by rw [q] at sw; revert sw; decide)] at w
      rw [if_neg (fun q => by rw [q] at sw; revert sw; decide)] at w
      rw [if_neg (fun q => by rw [q] at sw; revert sw; decide)] at w
      rw [if_neg (fun q => by rw [q] at sw; revert sw; decide)] at w
      rw [if_neg (fun q => by rw [q] at sw; revert sw; decide)] at w
      rw [if_neg (fun q => by rw [q] at sw; revert sw; decide)] at w
      rw [if_pos sv] at w
      exact w
set_option maxRecDepth 20000 in
set_option maxHeartbeats 4000000 in
theorem x_L_law_196 {G : pm_G} {d : Nat} {post : pm_PT} {h : pm_H} {k1 k2 : Nat} {l1 : Nat} {l2 : Nat} {l3 : Nat} {l4 : Int32} (hk1 : k1 ≤ 601024) (hk2 : k2 ≤ 7293034) (w :
    (vp_in (l4 + 1) (gN G)) ∧
    (vp_in (l4 + 2) (gN G)) ∧
    (vp_in (l4 + 3) (gN G)) ∧
    (vp_in (l4 + 4) (gN G)) ∧
    (vp_in (l4 + 5) (gN G)) ∧
    (vp_in (l4 + 6) (gN G)) ∧
    (h.1[l1]? = some (0, 10)) ∧
    ci G d m_X11_feed [.ref l1, .long ((((gX G (l4 + 1 : Int32).toNatClampNeg : Int32).toInt64) <<< ((32 : Int32).toInt64 &&& 63)) ||| (((gX G (l4 + 2 : Int32).toNatClampNeg : Int32).toInt64) &&& (4294967295 : Int64))), .long ((((gX G (l4 + 3 : Int32).toNatClampNeg : Int32).toInt64) <<< ((32 : Int32).toInt64 &&& 63)) ||| (((gX G (l4 + 4 : Int32).toNatClampNeg : Int32).toInt64) &&& (4294967295 : Int64))), .long ((((gX G (l4 + 5 : Int32).toNatClampNeg : Int32).toInt64) <<< ((32 : Int32).toInt64 &&& 63)) ||| (((gX G (l4 + 6 : Int32).toNatClampNeg : Int32).toInt64) &&& (4294967295 : Int64)))] h fun r1 h2 =>
    (vp_in (l4 + 1) (gN G)) ∧
    (vp_in (l4 + 2) (gN G)) ∧
    (vp_in (l4 + 3) (gN G)) ∧
    (vp_in (l4 + 4) (gN G)) ∧
    (vp_in (l4 + 5) (gN G)) ∧
    (vp_in (l4 + 6) (gN G)) ∧
    (h2.1[l2]? = some (0, 11)) ∧
    ci G d m_X12_feed [.ref l2, .long ((((gX G (l4 + 1 : Int32).toNatClampNeg : Int32).toInt64) <<< ((32 : Int32).toInt64 &&& 63)) ||| (((gX G (l4 + 2 : Int32).toNatClampNeg : Int32).toInt64) &&& (4294967295 : Int64))), .long ((((gX G (l4 + 3 : Int32).toNatClampNeg : Int32).toInt64) <<< ((32 : Int32).toInt64 &&& 63)) ||| (((gX G (l4 + 4 : Int32).toNatClampNeg : Int32).toInt64) &&& (4294967295 : Int64))), .long ((((gX G (l4 + 5 : Int32).toNatClampNeg : Int32).toInt64) <<< ((32 : Int32).toInt64 &&& 63)) ||| (((gX G (l4 + 6 : Int32).toNatClampNeg : Int32).toInt64) &&& (4294967295 : Int64)))] h2 fun r3 h4 =>
    if r1 = r3 then (
      Wp G ((yL_law, cL_law, 7, (Option.some Jvm.ClassFile.FieldType.boolean)), d + 1, 601024, 7293034, post) (k1, k2) 23 [.ref 1200, .ref l1, .ref l2, .ref l3, .int (l4 + 7), .null, .null] [] h4
    ) else (
      (k1 ≤ 601024) ∧
      (k2 ≤ 7293034) ∧
      post (some (.int 0)) h4
    )) :
    Wp G ((yL_law, cL_law, 7, (Option.some Jvm.ClassFile.FieldType.boolean)), d + 1, 601024, 7293034, post) (k1, k2) 196 [.ref 1200, .ref l1, .ref l2, .ref l3, .int l4, .null, .null] [] h := by
  refine w_aload_n dL_law_196 rfl ?_
  refine w_aload_n dL_law_197 rfl ?_
  refine w_iload dL_law_198 rfl ?_
  refine w_iconst (v := 1) dL_law_200 rfl ?_
  refine w_iadd dL_law_201 ?_
  obtain ⟨e1, w⟩ := w
  refine w_sald dL_law_202 e1 ?_
  refine w_i2l dL_law_203 ?_
  refine w_bipush (v := 32) dL_law_204 rfl ?_
  refine w_lshl dL_law_206 ?_
  refine w_aload_n dL_law_207 rfl ?_
  refine w_iload dL_law_208 rfl ?_
  refine w_iconst (v := 2) dL_law_210 rfl ?_
  refine w_iadd dL_law_211 ?_
  obtain ⟨e2, w⟩ := w
  refine w_sald dL_law_212 e2 ?_
  refine w_i2l dL_law_213 ?_
  refine w_ldc2 (v := (4294967295 : Int64)) dL_law_214 g_1959 ?_
  refine w_land dL_law_217 ?_
  refine w_lor dL_law_218 ?_
  refine w_aload_n dL_law_219 rfl ?_
  refine w_iload dL_law_220 rfl ?_
  refine w_iconst (v := 3) dL_law_222 rfl ?_
  refine w_iadd dL_law_223 ?_
  obtain ⟨e3, w⟩ := w
  refine w_sald dL_law_224 e3 ?_
  refine w_i2l dL_law_225 ?_
  refine w_bipush (v := 32) dL_law_226 rfl ?_
  refine w_lshl dL_law_228 ?_
  refine w_aload_n dL_law_229 rfl ?_
  refine w_iload dL_law_230 rfl ?_
  refine w_iconst (v := 4) dL_law_232 rfl ?_
  refine w_iadd dL_law_233 ?_
  obtain ⟨e4, w⟩ := w
  refine w_sald dL_law_234 e4 ?_
  refine w_i2l dL_law_235 ?_
  refine w_ldc2 (v := (4294967295 : Int64)) dL_law_236 g_1959 ?_
  refine w_land dL_law_239 ?_
  refine w_lor dL_law_240 ?_
  refine w_aload_n dL_law_241 rfl ?_
  refine w_iload dL_law_242 rfl ?_
  refine w_iconst (v := 5) dL_law_244 rfl ?_
  refine w_iadd dL_law_245 ?_
  obtain ⟨e5, w⟩ := w
  refine w_sald dL_law_246 e5 ?_
  refine w_i2l dL_law_247 ?_
  refine w_bipush (v := 32) dL_law_248 rfl ?_
  refine w_lshl dL_law_250 ?_
  refine w_aload_n dL_law_251 rfl ?_
  refine w_iload dL_law_252 rfl ?_
  refine w_bipush (v := 6) dL_law_254 rfl ?_
  refine w_iadd dL_law_256 ?_
  obtain ⟨e6, w⟩ := w
  refine w_sald dL_law_257 e6 ?_
  refine w_i2l dL_law_258 ?_
  refine w_ldc2 (v := (4294967295 : Int64)) dL_law_259 g_1959 ?_
  refine w_land dL_law_262 ?_
  refine w_lor dL_law_263 ?_
  obtain ⟨e7, w⟩ := w
  refine w_callV (As := [.long ((((gX G (l4 + 1 : Int32).toNatClampNeg : Int32).toInt64) <<< ((32 : Int32).toInt64 &&& 63)) ||| (((gX G (l4 + 2 : Int32).toNatClampNeg : Int32).toInt64) &&& (4294967295 : Int64))), .long ((((gX G (l4 + 3 : Int32).toNatClampNeg : Int32).toInt64) <<< ((32 : Int32).toInt64 &&& 63)) ||| (((gX G (l4 + 4 : Int32).toNatClampNeg : Int32).toInt64) &&& (4294967295 : Int64))), .long ((((gX G (l4 + 5 : Int32).toNatClampNeg : Int32).toInt64) <<< ((32 : Int32).toInt64 &&& 63)) ||| (((gX G (l4 + 6 : Int32).toNatClampNeg : Int32).toInt64) &&& (4294967295 : Int64)))]) (st := []) dL_law_264 mt_X11_feed g_548 g_549 g_550 rfl e7 rfl rfl (Nat.le_of_ble_eq_true rfl) (Nat.le_refl _) ⟨hk1, hk2⟩ w ?_
  rintro v h2 ⟨r1, rfl, w⟩
  refine w_aload_n dL_law_267 rfl ?_
  refine w_aload_n dL_law_268 rfl ?_
  refine w_iload dL_law_269 rfl ?_
  refine w_iconst (v := 1) dL_law_271 rfl ?_
  refine w_iadd dL_law_272 ?_
  obtain ⟨e1, w⟩ := w
  refine w_sald dL_law_273 e1 ?_
  refine w_i2l dL_law_274 ?_
  refine w_bipush (v := 32) dL_law_275 rfl ?_
  refine w_lshl dL_law_277 ?_
  refine w_aload_n dL_law_278 rfl ?_
  refine w_iload dL_law_279 rfl ?_
  refine w_iconst (v := 2) dL_law_281 rfl ?_
  refine w_iadd dL_law_282 ?_
  obtain ⟨e2, w⟩ := w
  refine w_sald dL_law_283 e2 ?_
  refine w_i2l dL_law_284 ?_
  refine w_ldc2 (v := (4294967295 : Int64)) dL_law_285 g_1959 ?_
  refine w_land dL_law_288 ?_
  refine w_lor dL_law_289 ?_
  refine w_aload_n dL_law_290 rfl ?_
  refine w_iload dL_law_291 rfl ?_
  refine w_iconst (v := 3) dL_law_293 rfl ?_
  refine w_iadd dL_law_294 ?_
  obtain ⟨e3, w⟩ := w
  refine w_sald dL_law_295 e3 ?_
  refine w_i2l dL_law_296 ?_
  refine w_bipush (v := 32) dL_law_297 rfl ?_
  refine w_lshl dL_law_299 ?_
  refine w_aload_n dL_law_300 rfl ?_
  refine w_iload dL_law_301 rfl ?_
  refine w_iconst (v := 4) dL_law_303 rfl ?_
  refine w_iadd dL_law_304 ?_
  obtain ⟨e4, w⟩ := w
  refine w_sald dL_law_305 e4 ?_
  refine w_i2l dL_law_306 ?_
  refine w_ldc2 (v := (4294967295 : Int64)) dL_law_307 g_1959 ?_
  refine w_land dL_law_310 ?_
  refine w_lor dL_law_311 ?_
  refine w_aload_n dL_law_312 rfl ?_
  refine w_iload dL_law_313 rfl ?_
  refine w_iconst (v := 5) dL_law_315 rfl ?_
  refine w_iadd dL_law_316 ?_
  obtain ⟨e5, w⟩ := w
  refine w_sald dL_law_317 e5 ?_
  refine w_i2l dL_law_318 ?_
  refine w_bipush (v := 32) dL_law_319 rfl ?_
  refine w_lshl dL_law_321 ?_
  refine w_aload_n dL_law_322 rfl ?_
  refine w_iload dL_law_323 rfl ?_
  refine w_bipush (v := 6) dL_law_325 rfl ?_
  refine w_iadd dL_law_327 ?_
  obtain ⟨e6, w⟩ := w
  refine w_sald dL_law_328 e6 ?_
  refine w_i2l dL_law_329 ?_
  refine w_ldc2 (v := (4294967295 : Int64)) dL_law_330 g_1959 ?_
  refine w_land dL_law_333 ?_
  refine w_lor dL_law_334 ?_
  obtain ⟨e7, w⟩ := w
  refine w_callV (As := [.long ((((gX G (l4 + 1 : Int32).toNatClampNeg : Int32).toInt64) <<< ((32 : Int32).toInt64 &&& 63)) ||| (((gX G (l4 + 2 : Int32).toNatClampNeg : Int32).toInt64) &&& (4294967295 : Int64))), .long ((((gX G (l4 + 3 : Int32).toNatClampNeg : Int32).toInt64) <<< ((32 : Int32).toInt64 &&& 63)) ||| (((gX G (l4 + 4 : Int32).toNatClampNeg : Int32).toInt64) &&& (4294967295 : Int64))), .long ((((gX G (l4 + 5 : Int32).toNatClampNeg : Int32).toInt64) <<< ((32 : Int32).toInt64 &&& 63)) ||| (((gX G (l4 + 6 : Int32).toNatClampNeg : Int32).toInt64) &&& (4294967295 : Int64)))]) (st := [.int r1]) dL_law_335 mt_X12_feed g_1320 g_1321 g_1322 rfl e7 rfl rfl (Nat.le_of_ble_eq_true rfl) (Nat.le_refl _) ⟨hk1, hk2⟩ w ?_
  rintro v h4 ⟨r3, rfl, w⟩
  refine w_ic_eq (tgt := 1455) dL_law_338 rfl (fun c => ?_) (fun c => ?_)
  · rw [if_pos c] at w
    refine v_iinc (l' := [.ref 1200, .ref l1, .ref l2, .ref l3, .int (l4 + 7), .null, .null]) (v := l4 + 7) dL_law_1455 rfl rfl (Nat.le_of_ble_eq_true rfl) rfl ?_
    refine w_goto (tgt := 23) dL_law_1458 rfl ?_
    exact w
  · rw [if_neg c] at w
    refine w_iconst (v := 0) dL_law_341 rfl ?_
    obtain ⟨e1, w⟩ := w
    obtain ⟨e2, w⟩ := w
    exact w_ireturn dL_law_342 rfl rfl ⟨e1, e2⟩ w
set_option maxRecDepth 20000 in
set_option maxHeartbeats 4000000 in
theorem x_L_law_343 {G : pm_G} {d : Nat} {post : pm_PT} {h : pm_H} {k1 k2 : Nat} {l1 : Nat} {l2 : Nat} {l3 : Nat} {l4 : Int32} (hk1 : k1 ≤ 601024) (hk2 : k2 ≤ 7293034) (w :
    (h.1[l1]? = some (0, 10)) ∧
    ci G d m_X11_queue [.ref l1] h fun r1 h2 =>
    (h2.1[l2]? = some (0, 11)) ∧
    ci G d m_X12_queue [.ref l2] h2 fun r3 h4 =>
    if r1 = r3 then (
      Wp G ((yL_law, cL_law, 7, (Option.some Jvm.ClassFile.FieldType.boolean)), d + 1, 601024, 7293034, post) (k1, k2) 23 [.ref 1200, .ref l1, .ref l2, .ref l3, .int (l4 + 7), .null, .null] [] h4
    ) else (
      (k1 ≤ 601024) ∧
      (k2 ≤ 7293034) ∧
      post (some (.int 0)) h4
    )) :
    Wp G ((yL_law, cL_law, 7, (Option.some Jvm.ClassFile.FieldType.boolean)), d + 1, 601024, 7293034, post) (k1, k2) 343 [.ref 1200, .ref l1, .ref l2, .ref l3, .int l4, .null, .null] [] h := by
  refine w_aload_n dL_law_343 rfl ?_
  obtain ⟨e1, w⟩ := w
  refine w_callV (As := []) (st := []) dL_law_344 mt_X11_queue g_557 g_558 g_559 rfl e1 rfl rfl (Nat.le_of_ble_eq_true rfl) (Nat.le_refl _) ⟨hk1, hk2⟩ w ?_
  rintro v h2 ⟨r1, rfl, w⟩
  refine w_aload_n dL_law_347 rfl ?_
  obtain ⟨e1, w⟩ := w
  refine w_callV (As := []) (st := [.int r1]) dL_law_348 mt_X12_queue g_1556 g_1557 g_1558 rfl e1 rfl rfl (Nat.le_of_ble_eq_true rfl) (Nat.le_refl _) ⟨hk1, hk2⟩ w ?_
  rintro v h4 ⟨r3, rfl, w⟩
  refine w_ic_eq (tgt := 1455) dL_law_351 rfl (fun c => ?_) (fun c => ?_)
  · rw [if_pos c] at w
    refine v_iinc (l' := [.ref 1200, .ref l1, .ref l2, .ref l3, .int (l4 + 7), .null, .null]) (v := l4 + 7) dL_law_1455 rfl rfl (Nat.le_of_ble_eq_true rfl) rfl ?_
    refine w_goto (tgt := 23) dL_law_1458 rfl ?_
    exact w
  · rw [if_neg c] at w
    refine w_iconst (v := 0) dL_law_354 rfl ?_
    obtain ⟨e1, w⟩ := w
    obtain ⟨e2, w⟩ := w
    exact w_ireturn dL_law_355 rfl rfl ⟨e1, e2⟩ w
set_option maxRecDepth 20000 in
set_option maxHeartbeats 4000000 in
theorem x_L_law_356 {G : pm_G} {d : Nat} {post : pm_PT} {h : pm_H} {k1 k2 : Nat} {l1 : Nat} {l2 : Nat} {l3 : Nat} {l4 : Int32} (hk1 : k1 ≤ 601024) (hk2 : k2 ≤ 7293034) (w :
    (h.1[l1]? = some (0, 10)) ∧
    ci G d m_X11_work [.ref l1] h fun r1 h2 =>
    (h2.1[l2]? = some (0, 11)) ∧
    ci G d m_X12_work [.ref l2] h2 fun r3 h4 =>
    if r1 = r3 then (
      Wp G ((yL_law, cL_law, 7, (Option.some Jvm.ClassFile.FieldType.boolean)), d + 1, 601024, 7293034, post) (k1, k2) 23 [.ref 1200, .ref l1, .ref l2, .ref l3, .int (l4 + 7), .null, .null] [] h4
    ) else (
      (k1 ≤ 601024) ∧
      (k2 ≤ 7293034) ∧
      post (some (.int 0)) h4
    )) :
    Wp G ((yL_law, cL_law, 7, (Option.some Jvm.ClassFile.FieldType.boolean)), d + 1, 601024, 7293034, post) (k1, k2) 356 [.ref 1200, .ref l1, .ref l2, .ref l3, .int l4, .null, .null] [] h := by
  refine w_aload_n dL_law_356 rfl ?_
  obtain ⟨e1, w⟩ := w
  refine w_callV (As := []) (st := []) dL_law_357 mt_X11_work g_853 g_854 g_855 rfl e1 rfl rfl (Nat.le_of_ble_eq_true rfl) (Nat.le_refl _) ⟨hk1, hk2⟩ w ?_
  rintro v h2 ⟨r1, rfl, w⟩
  refine w_aload_n dL_law_360 rfl ?_
  obtain ⟨e1, w⟩ := w
  refine w_callV (As := []) (st := [.int r1]) dL_law_361 mt_X12_work g_1675 g_1676 g_1677 rfl e1 rfl rfl (Nat.le_of_ble_eq_true rfl) (Nat.le_refl _) ⟨hk1, hk2⟩ w ?_
  rintro v h4 ⟨r3, rfl, w⟩
  refine w_ic_eq (tgt := 1455) dL_law_364 rfl (fun c => ?_) (fun c => ?_)
  · rw [if_pos c] at w
    refine v_iinc (l' := [.ref 1200, .ref l1, .ref l2, .ref l3, .int (l4 + 7), .null, .null]) (v := l4 + 7) dL_law_1455 rfl rfl (Nat.le_of_ble_eq_true rfl) rfl ?_
    refine w_goto (tgt := 23) dL_law_1458 rfl ?_
    exact w
  · rw [if_neg c] at w
    refine w_iconst (v := 0) dL_law_367 rfl ?_
    obtain ⟨e1, w⟩ := w
    obtain ⟨e2, w⟩ := w
    exact w_ireturn dL_law_368 rfl rfl ⟨e1, e2⟩ w
set_option maxRecDepth 20000 in
set_option maxHeartbeats 4000000 in
theorem x_L_law_369 {G : pm_G} {d : Nat} {post : pm_PT} {h : pm_H} {k1 k2 : Nat} {l1 : Nat} {l2 : Nat} {l3 : Nat} {l4 : Int32} (hk1 : k1 ≤ 601024) (hk2 : k2 ≤ 7293034) (w :
    (vp_in (l4 + 1) (gN G)) ∧
    (vp_in (l4 + 2) (gN G)) ∧
    (h.1[l1]? = some (0, 10)) ∧
    ci G d m_X11_item [.ref l1, .int (gX G (l4 + 1 : Int32).toNatClampNeg), .int (gX G (l4 + 2 : Int32).toNatClampNeg)] h fun r1 h2 =>
    (vp_in (l4 + 1) (gN G)) ∧
    (vp_in (l4 + 2) (gN G)) ∧
    (h2.1[l2]? = some (0, 11)) ∧
    ci G d m_X12_item [.ref l2, .int (gX G (l4 + 1 : Int32).toNatClampNeg), .int (gX G (l4 + 2 : Int32).toNatClampNeg)] h2 fun r3 h4 =>
    if r1 = r3 then (
      Wp G ((yL_law, cL_law, 7, (Option.some Jvm.ClassFile.FieldType.boolean)), d + 1, 601024, 7293034, post) (k1, k2) 23 [.ref 1200, .ref l1, .ref l2, .ref l3, .int (l4 + 7), .null, .null] [] h4
    ) else (
      (k1 ≤ 601024) ∧
      (k2 ≤ 7293034) ∧
      post (some (.int 0)) h4
    )) :
    Wp G ((yL_law, cL_law, 7, (Option.some Jvm.ClassFile.FieldType.boolean)), d + 1, 601024, 7293034, post) (k1, k2) 369 [.ref 1200, .ref l1, .ref l2, .ref l3, .int l4, .null, .null] [] h := by
  refine w_aload_n dL_law_369 rfl ?_
  refine w_aload_n dL_law_370 rfl ?_
  refine w_iload dL_law_371 rfl ?_
  refine w_iconst (v := 1) dL_law_373 rfl ?_
  refine w_iadd dL_law_374 ?_
  obtain ⟨e1, w⟩ := w
  refine w_sald dL_law_375 e1 ?_
  refine w_aload_n dL_law_376 rfl ?_
  refine w_iload dL_law_377 rfl ?_
  refine w_iconst (v := 2) dL_law_379 rfl ?_
  refine w_iadd dL_law_380 ?_
  obtain ⟨e2, w⟩ := w
  refine w_sald dL_law_381 e2 ?_
  obtain ⟨e3, w⟩ := w
  refine w_callV (As := [.int (gX G (l4 + 1 : Int32).toNatClampNeg), .int (gX G (l4 + 2 : Int32).toNatClampNeg)]) (st := []) dL_law_382 mt_X11_item g_884 g_885 g_886 rfl e3 rfl rfl (Nat.le_of_ble_eq_true rfl) (Nat.le_refl _) ⟨hk1, hk2⟩ w ?_
  rintro v h2 ⟨r1, rfl, w⟩
  refine w_aload_n dL_law_385 rfl ?_
  refine w_aload_n dL_law_386 rfl ?_
  refine w_iload dL_law_387 rfl ?_
  refine w_iconst (v := 1) dL_law_389 rfl ?_
  refine w_iadd dL_law_390 ?_
  obtain ⟨e1, w⟩ := w
  refine w_sald dL_law_391 e1 ?_
  refine w_aload_n dL_law_392 rfl ?_
  refine w_iload dL_law_393 rfl ?_
  refine w_iconst (v := 2) dL_law_395 rfl ?_
  refine w_iadd dL_law_396 ?_
  obtain ⟨e2, w⟩ := w
  refine w_sald dL_law_397 e2 ?_
  obtain ⟨e3, w⟩ := w
  refine w_callV (As := [.int (gX G (l4 + 1 : Int32).toNatClampNeg), .int (gX G (l4 + 2 : Int32).toNatClampNeg)]) (st := [.int r1]) dL_law_398 mt_X12_item g_1778 g_1779 g_1780 rfl e3 rfl rfl (Nat.le_of_ble_eq_true rfl) (Nat.le_refl _) ⟨hk1, hk2⟩ w ?_
  rintro v h4 ⟨r3, rfl, w⟩
  refine w_ic_eq (tgt := 1455) dL_law_401 rfl (fun c => ?_) (fun c => ?_)
  · rw [if_pos c] at w
    refine v_iinc (l' := [.ref 1200, .ref l1, .ref l2, .ref l3, .int (l4 + 7), .null, .null]) (v := l4 + 7) dL_law_1455 rfl rfl (Nat.le_of_ble_eq_true rfl) rfl ?_
    refine w_goto (tgt := 23) dL_law_1458 rfl ?_
    exact w
  · rw [if_neg c] at w
    refine w_iconst (v := 0) dL_law_404 rfl ?_
    obtain ⟨e1, w⟩ := w
    obtain ⟨e2, w⟩ := w
    exact w_ireturn dL_law_405 rfl rfl ⟨e1, e2⟩ w
set_option maxRecDepth 20000 in
set_option maxHeartbeats 4000000 in
theorem x_L_law_406 {G : pm_G} {d : Nat} {post : pm_PT} {h : pm_H} {k1 k2 : Nat} {l1 : Nat} {l2 : Nat} {l3 : Nat} {l4 : Int32} (hk1 : k1 ≤ 601024) (hk2 : k2 ≤ 7293034) (w :
    (vp_in (l4 + 1) (gN G)) ∧
    (vp_in (l4 + 2) (gN G)) ∧
    (h.1[l1]? = some (0, 10)) ∧
    ci G d m_X11_heap [.ref l1, .int (gX G (l4 + 1 : Int32).toNatClampNeg), .int (gX G (l4 + 2 : Int32).toNatClampNeg)] h fun r1 h2 =>
    (vp_in (l4 + 1) (gN G)) ∧
    (vp_in (l4 + 2) (gN G)) ∧
    (h2.1[l2]? = some (0, 11)) ∧
    ci G d m_X12_heap [.ref l2, .int (gX G (l4 + 1 : Int32).toNatClampNeg), .int (gX G (l4 + 2 : Int32).toNatClampNeg)] h2 fun r3 h4 =>
    if r1 = r3 then (
      Wp G ((yL_law, cL_law, 7, (Option.some Jvm.ClassFile.FieldType.boolean)), d + 1, 601024, 7293034, post) (k1, k2) 23 [.ref 1200, .ref l1, .ref l2, .ref l3, .int (l4 + 7), .null, .null] [] h4
    ) else (
      (k1 ≤ 601024) ∧
      (k2 ≤ 7293034) ∧
      post (some (.int 0)) h4
    )) :
    Wp G ((yL_law, cL_law, 7, (Option.some Jvm.ClassFile.FieldType.boolean)), d + 1, 601024, 7293034, post) (k1, k2) 406 [.ref 1200, .ref l1, .ref l2, .ref l3, .int l4, .null, .null] [] h := by
  refine w_aload_n dL_law_406 rfl ?_
  refine w_aload_n dL_law_407 rfl ?_
  refine w_iload dL_law_408 rfl ?_
  refine w_iconst (v := 1) dL_law_410 rfl ?_
  refine w_iadd dL_law_411 ?_
  obtain ⟨e1, w⟩ := w
  refine w_sald dL_law_412 e1 ?_
  refine w_aload_n dL_law_413 rfl ?_
  refine w_iload dL_law_414 rfl ?_
  refine w_iconst (v := 2) dL_law_416 rfl ?_
  refine w_iadd dL_law_417 ?_
  obtain ⟨e2, w⟩ := w
  refine w_sald dL_law_418 e2 ?_
  obtain ⟨e3, w⟩ := w
  refine w_callV (As := [.int (gX G (l4 + 1 : Int32).toNatClampNeg), .int (gX G (l4 + 2 : Int32).toNatClampNeg)]) (st := []) dL_law_419 mt_X11_heap g_897 g_898 g_899 rfl e3 rfl rfl (Nat.le_of_ble_eq_true rfl) (Nat.le_refl _) ⟨hk1, hk2⟩ w ?_
  rintro v h2 ⟨r1, rfl, w⟩
  refine w_aload_n dL_law_422 rfl ?_
  refine w_aload_n dL_law_423 rfl ?_
  refine w_iload dL_law_424 rfl ?_
  refine w_iconst (v := 1) dL_law_426 rfl ?_
  refine w_iadd dL_law_427 ?_
  obtain ⟨e1, w⟩ := w
  refine w_sald dL_law_428 e1 ?_
  refine w_aload_n dL_law_429 rfl ?_
  refine w_iload dL_law_430 rfl ?_
  refine w_iconst (v := 2) dL_law_432 rfl ?_
  refine w_iadd dL_law_433 ?_
  obtain ⟨e2, w⟩ := w
  refine w_sald dL_law_434 e2 ?_
  obtain ⟨e3, w⟩ := w
  refine w_callV (As := [.int (gX G (l4 + 1 : Int32).toNatClampNeg), .int (gX G (l4 + 2 : Int32).toNatClampNeg)]) (st := [.int r1]) dL_law_435 mt_X12_heap g_1782 g_1783 g_1784 rfl e3 rfl rfl (Nat.le_of_ble_eq_true rfl) (Nat.le_refl _) ⟨hk1, hk2⟩ w ?_
  rintro v h4 ⟨r3, rfl, w⟩
  refine w_ic_eq (tgt := 1455) dL_law_438 rfl (fun c => ?_) (fun c => ?_)
  · rw [if_pos c] at w
    refine v_iinc (l' := [.ref 1200, .ref l1, .ref l2, .ref l3, .int (l4 + 7), .null, .null]) (v := l4 + 7) dL_law_1455 rfl rfl (Nat.le_of_ble_eq_true rfl) rfl ?_
    refine w_goto (tgt := 23) dL_law_1458 rfl ?_
    exact w
  · rw [if_neg c] at w
    refine w_iconst (v := 0) dL_law_441 rfl ?_
    obtain ⟨e1, w⟩ := w
    obtain ⟨e2, w⟩ := w
    exact w_ireturn dL_law_442 rfl rfl ⟨e1, e2⟩ w
set_option maxRecDepth 20000 in
set_option maxHeartbeats 4000000 in
theorem x_L_law_443 {G : pm_G} {d : Nat} {post : pm_PT} {h : pm_H} {k1 k2 : Nat} {l1 : Nat} {l2 : Nat} {l3 : Nat} {l4 : Int32} (hk1 : k1 ≤ 601024) (hk2 : k2 ≤ 7293034) (w :
    (vp_in (l4 + 1) (gN G)) ∧
    (vp_in (l4 + 2) (gN G)) ∧
    (vp_in (l4 + 3) (gN G)) ∧
    (h.1[l1]? = some (0, 10)) ∧
    ci G d m_X11_tree [.ref l1, .int (gX G (l4 + 1 : Int32).toNatClampNeg), .int (gX G (l4 + 2 : Int32).toNatClampNeg), .int (gX G (l4 + 3 : Int32).toNatClampNeg)] h fun r1 h2 =>
    (vp_in (l4 + 1) (gN G)) ∧
    (vp_in (l4 + 2) (gN G)) ∧
    (vp_in (l4 + 3) (gN G)) ∧
    (h2.1[l2]? = some (0, 11)) ∧
    ci G d m_X12_tree [.ref l2, .int (gX G (l4 + 1 : Int32).toNatClampNeg), .int (gX G (l4 + 2 : Int32).toNatClampNeg), .int (gX G (l4 + 3 : Int32).toNatClampNeg)] h2 fun r3 h4 =>
    if r1 = r3 then (
      Wp G ((yL_law, cL_law, 7, (Option.some Jvm.ClassFile.FieldType.boolean)), d + 1, 601024, 7293034, post) (k1, k2) 23 [.ref 1200, .ref l1, .ref l2, .ref l3, .int (l4 + 7), .null, .null] [] h4
    ) else (
      (k1 ≤ 601024) ∧
      (k2 ≤ 7293034) ∧
      post (some (.int 0)) h4
    )) :
    Wp G ((yL_law, cL_law, 7, (Option.some Jvm.ClassFile.FieldType.boolean)), d + 1, 601024, 7293034, post) (k1, k2) 443 [.ref 1200, .ref l1, .ref l2, .ref l3, .int l4, .null, .null] [] h := by
  refine w_aload_n dL_law_443 rfl ?_
  refine w_aload_n dL_law_444 rfl ?_
  refine w_iload dL_law_445 rfl ?_
  refine w_iconst (v := 1) dL_law_447 rfl ?_
  refine w_iadd dL_law_448 ?_
  obtain ⟨e1, w⟩ := w
  refine w_sald dL_law_449 e1 ?_
  refine w_aload_n dL_law_450 rfl ?_
  refine w_iload dL_law_451 rfl ?_
  refine w_iconst (v := 2) dL_law_453 rfl ?_
  refine w_iadd dL_law_454 ?_
  obtain ⟨e2, w⟩ := w
  refine w_sald dL_law_455 e2 ?_
  refine w_aload_n dL_law_456 rfl ?_
  refine w_iload dL_law_457 rfl ?_
  refine w_iconst (v := 3) dL_law_459 rfl ?_
  refine w_iadd dL_law_460 ?_
  obtain ⟨e3, w⟩ := w
  refine w_sald dL_law_461 e3 ?_
  obtain ⟨e4, w⟩ := w
  refine w_callV (As := [.int (gX G (l4 + 1 : Int32).toNatClampNeg), .int (gX G (l4 + 2 : Int32).toNatClampNeg), .int (gX G (l4 + 3 : Int32).toNatClampNeg)]) (st := []) dL_law_462 mt_X11_tree g_919 g_920 g_921 rfl e4 rfl rfl (Nat.le_of_ble_eq_true rfl) (Nat.le_refl _) ⟨hk1, hk2⟩ w ?_
  rintro v h2 ⟨r1, rfl, w⟩
  refine w_aload_n dL_law_465 rfl ?_
  refine w_aload_n dL_law_466 rfl ?_
  refine w_iload dL_law_467 rfl ?_
  refine w_iconst (v := 1) dL_law_469 rfl ?_
  refine w_iadd dL_law_470 ?_
  obtain ⟨e1, w⟩ := w
  refine w_sald dL_law_471 e1 ?_
  refine w_aload_n dL_law_472 rfl ?_
  refine w_iload dL_law_473 rfl ?_
  refine w_iconst (v := 2) dL_law_475 rfl ?_
  refine w_iadd dL_law_476 ?_
  obtain ⟨e2, w⟩ := w
  refine w_sald dL_law_477 e2 ?_
  refine w_aload_n dL_law_478 rfl ?_
  refine w_iload dL_law_479 rfl ?_
  refine w_iconst (v := 3) dL_law_481 rfl ?_
  refine w_iadd dL_law_482 ?_
  obtain ⟨e3, w⟩ := w
  refine w_sald dL_law_483 e3 ?_
  obtain ⟨e4, w⟩ := w
  refine w_callV (As := [.int (gX G (l4 + 1 : Int32).toNatClampNeg), .int (gX G (l4 + 2 : Int32).toNatClampNeg), .int (gX G (l4 + 3 : Int32).toNatClampNeg)]) (st := [.int r1]) dL_law_484 mt_X12_tree g_1794 g_1795 g_1796 rfl e4 rfl rfl (Nat.le_of_ble_eq_true rfl) (Nat.le_refl _) ⟨hk1, hk2⟩ w ?_
  rintro v h4 ⟨r3, rfl, w⟩
  refine w_ic_eq (tgt := 1455) dL_law_487 rfl (fun c => ?_) (fun c => ?_)
  · rw [if_pos c] at w
    refine v_iinc (l' := [.ref 1200, .ref l1, .ref l2, .ref l3, .int (l4 + 7), .null, .null]) (v := l4 + 7) dL_law_1455 rfl rfl (Nat.le_of_ble_eq_true rfl) rfl ?_
    refine w_goto (tgt := 23) dL_law_1458 rfl ?_
    exact w
  · rw [if_neg c] at w
    refine w_iconst (v := 0) dL_law_490 rfl ?_
    obtain ⟨e1, w⟩ := w
    obtain ⟨e2, w⟩ := w
    exact w_ireturn dL_law_491 rfl rfl ⟨e1, e2⟩ w
set_option maxRecDepth 20000 in
set_option maxHeartbeats 4000000 in
theorem x_L_law_492 {G : pm_G} {d : Nat} {post : pm_PT} {h : pm_H} {k1 k2 : Nat} {l1 : Nat} {l2 : Nat} {l3 : Nat} {l4 : Int32} (hk1 : k1 ≤ 601024) (hk2 : k2 ≤ 7293034) (w :
    (vp_in (l4 + 1) (gN G)) ∧
    (vp_in (l4 + 2) (gN G)) ∧
    (vp_in (l4 + 3) (gN G)) ∧
    (h.1[l1]? = some (0, 10)) ∧
    ci G d m_X11_listed [.ref l1, .int (gX G (l4 + 1 : Int32).toNatClampNeg), .int (gX G (l4 + 2 : Int32).toNatClampNeg), .int (gX G (l4 + 3 : Int32).toNatClampNeg)] h fun r1 h2 =>
    (vp_in (l4 + 1) (gN G)) ∧
    (vp_in (l4 + 2) (gN G)) ∧
    (vp_in (l4 + 3) (gN G)) ∧
    (h2.1[l2]? = some (0, 11)) ∧
    ci G d m_X12_listed [.ref l2, .int (gX G (l4 + 1 : Int32).toNatClampNeg), .int (gX G (l4 + 2 : Int32).toNatClampNeg), .int (gX G (l4 + 3 : Int32).toNatClampNeg)] h2 fun r3 h4 =>
    if r1 = r3 then (
      Wp G ((yL_law, cL_law, 7, (Option.some Jvm.ClassFile.FieldType.boolean)), d + 1, 601024, 7293034, post) (k1, k2) 23 [.ref 1200, .ref l1, .ref l2, .ref l3, .int (l4 + 7), .null, .null] [] h4
    ) else (
      (k1 ≤ 601024) ∧
      (k2 ≤ 7293034) ∧
      post (some (.int 0)) h4
    )) :
    Wp G ((yL_law, cL_law, 7, (Option.some Jvm.ClassFile.FieldType.boolean)), d + 1, 601024, 7293034, post) (k1, k2) 492 [.ref 1200, .ref l1, .ref l2, .ref l3, .int l4, .null, .null] [] h := by
  refine w_aload_n dL_law_492 rfl ?_
  refine w_aload_n dL_law_493 rfl ?_
  refine w_iload dL_law_494 rfl ?_
  refine w_iconst (v := 1) dL_law_496 rfl ?_
  refine w_iadd dL_law_497 ?_
  obtain ⟨e1, w⟩ := w
  refine w_sald dL_law_498 e1 ?_
  refine w_aload_n dL_law_499 rfl ?_
  refine w_iload dL_law_500 rfl ?_
  refine w_iconst (v := 2) dL_law_502 rfl ?_
  refine w_iadd dL_law_503 ?_
  obtain ⟨e2, w⟩ := w
  refine w_sald dL_law_504 e2 ?_
  refine w_aload_n dL_law_505 rfl ?_
  refine w_iload dL_law_506 rfl ?_
  refine w_iconst (v := 3) dL_law_508 rfl ?_
  refine w_iadd dL_law_509 ?_
  obtain ⟨e3, w⟩ := w
  refine w_sald dL_law_510 e3 ?_
  obtain ⟨e4, w⟩ := w
  refine w_callV (As := [.int (gX G (l4 + 1 : Int32).toNatClampNeg), .int (gX G (l4 + 2 : Int32).toNatClampNeg), .int (gX G (l4 + 3 : Int32).toNatClampNeg)]) (st := []) dL_law_511 mt_X11_listed g_940 g_941 g_942 rfl e4 rfl rfl (Nat.le_of_ble_eq_true rfl) (Nat.le_refl _) ⟨hk1, hk2⟩ w ?_
  rintro v h2 ⟨r1, rfl, w⟩
  refine w_aload_n dL_law_514 rfl ?_
  refine w_aload_n dL_law_515 rfl ?_
  refine w_iload dL_law_516 rfl ?_
  refine w_iconst (v := 1) dL_law_518 rfl ?_
  refine w_iadd dL_law_519 ?_
  obtain ⟨e1, w⟩ := w
  refine w_sald dL_law_520 e1 ?_
  refine w_aload_n dL_law_521 rfl ?_
  refine w_iload dL_law_522 rfl ?_
  refine w_iconst (v := 2) dL_law_524 rfl ?_
  refine w_iadd dL_law_525 ?_
  obtain ⟨e2, w⟩ := w
  refine w_sald dL_law_526 e2 ?_
  refine w_aload_n dL_law_527 rfl ?_
  refine w_iload dL_law_528 rfl ?_
  refine w_iconst (v := 3) dL_law_530 rfl ?_
  refine w_iadd dL_law_531 ?_
  obtain ⟨e3, w⟩ := w
  refine w_sald dL_law_532 e3 ?_
  obtain ⟨e4, w⟩ := w
  refine w_callV (As := [.int (gX G (l4 + 1 : Int32).toNatClampNeg), .int (gX G (l4 + 2 : Int32).toNatClampNeg), .int (gX G (l4 + 3 : Int32).toNatClampNeg)]) (st := [.int r1]) dL_law_533 mt_X12_listed g_1802 g_1803 g_1804 rfl e4 rfl rfl (Nat.le_of_ble_eq_true rfl) (Nat.le_refl _) ⟨hk1, hk2⟩ w ?_
  rintro v h4 ⟨r3, rfl, w⟩
  refine w_ic_eq (tgt := 1455) dL_law_536 rfl (fun c => ?_) (fun c => ?_)
  · rw [if_pos c] at w
    refine v_iinc (l' := [.ref 1200, .ref l1, .ref l2, .ref l3, .int (l4 + 7), .null, .null]) (v := l4 + 7) dL_law_1455 rfl rfl (Nat.le_of_ble_eq_true rfl) rfl ?_
    refine w_goto (tgt := 23) dL_law_1458 rfl ?_
    exact w
  · rw [if_neg c] at w
    refine w_iconst (v := 0) dL_law_539 rfl ?_
    obtain ⟨e1, w⟩ := w
    obtain ⟨e2, w⟩ := w
    exact w_ireturn dL_law_540 rfl rfl ⟨e1, e2⟩ w
set_option maxRecDepth 20000 in
set_option maxHeartbeats 4000000 in
theorem x_L_law_541 {G : pm_G} {d : Nat} {post : pm_PT} {h : pm_H} {k1 k2 : Nat} {l1 : Nat} {l2 : Nat} {l3 : Nat} {l4 : Int32} (hk1 : k1 ≤ 601024) (hk2 : k2 ≤ 7293034) (w :
    (vp_in (l4 + 1) (gN G)) ∧
    (h.1[l1]? = some (0, 10)) ∧
    ci G d m_X11_shelf [.ref l1, .int (gX G (l4 + 1 : Int32).toNatClampNeg)] h fun r1 h2 =>
    (vp_in (l4 + 1) (gN G)) ∧
    (h2.1[l2]? = some (0, 11)) ∧
    ci G d m_X12_shelf [.ref l2, .int (gX G (l4 + 1 : Int32).toNatClampNeg)] h2 fun r3 h4 =>
    if r1 = r3 then (
      Wp G ((yL_law, cL_law, 7, (Option.some Jvm.ClassFile.FieldType.boolean)), d + 1, 601024, 7293034, post) (k1, k2) 23 [.ref 1200, .ref l1, .ref l2, .ref l3, .int (l4 + 7), .null, .null] [] h4
    ) else (
      (k1 ≤ 601024) ∧
      (k2 ≤ 7293034) ∧
      post (some (.int 0)) h4
    )) :
    Wp G ((yL_law, cL_law, 7, (Option.some Jvm.ClassFile.FieldType.boolean)), d + 1, 601024, 7293034, post) (k1, k2) 541 [.ref 1200, .ref l1, .ref l2, .ref l3, .int l4, .null, .null] [] h := by
  refine w_aload_n dL_law_541 rfl ?_
  refine w_aload_n dL_law_542 rfl ?_
  refine w_iload dL_law_543 rfl ?_
  refine w_iconst (v := 1) dL_law_545 rfl ?_
  refine w_iadd dL_law_546 ?_
  obtain ⟨e1, w⟩ := w
  refine w_sald dL_law_547 e1 ?_
  obtain ⟨e2, w⟩ := w
  refine w_callV (As := [.int (gX G (l4 + 1 : Int32).toNatClampNeg)]) (st := []) dL_law_548 mt_X11_shelf g_948 g_949 g_950 rfl e2 rfl rfl (Nat.le_of_ble_eq_true rfl) (Nat.le_refl _) ⟨hk1, hk2⟩ w ?_
  rintro v h2 ⟨r1, rfl, w⟩
  refine w_aload_n dL_law_551 rfl ?_
  refine w_aload_n dL_law_552 rfl ?_
  refine w_iload dL_law_553 rfl ?_
  refine w_iconst (v := 1) dL_law_555 rfl ?_
  refine w_iadd dL_law_556 ?_
  obtain ⟨e1, w⟩ := w
  refine w_sald dL_law_557 e1 ?_
  obtain ⟨e2, w⟩ := w
  refine w_callV (As := [.int (gX G (l4 + 1 : Int32).toNatClampNeg)]) (st := [.int r1]) dL_law_558 mt_X12_shelf g_1806 g_1807 g_1808 rfl e2 rfl rfl (Nat.le_of_ble_eq_true rfl) (Nat.le_refl _) ⟨hk1, hk2⟩ w ?_
  rintro v h4 ⟨r3, rfl, w⟩
  refine w_ic_eq (tgt := 1455) dL_law_561 rfl (fun c => ?_) (fun c => ?_)
  · rw [if_pos c] at w
    refine v_iinc (l' := [.ref 1200, .ref l1, .ref l2, .ref l3, .int (l4 + 7), .null, .null]) (v := l4 + 7) dL_law_1455 rfl rfl (Nat.le_of_ble_eq_true rfl) rfl ?_
    refine w_goto (tgt := 23) dL_law_1458 rfl ?_
    exact w
  · rw [if_neg c] at w
    refine w_iconst (v := 0) dL_law_564 rfl ?_
    obtain ⟨e1, w⟩ := w
    obtain ⟨e2, w⟩ := w
    exact w_ireturn dL_law_565 rfl rfl ⟨e1, e2⟩ w
set_option maxRecDepth 20000 in
set_option maxHeartbeats 4000000 in
theorem x_L_law_566 {G : pm_G} {d : Nat} {post : pm_PT} {h : pm_H} {k1 k2 : Nat} {l1 : Nat} {l2 : Nat} {l3 : Nat} {l4 : Int32} (hk1 : k1 ≤ 601024) (hk2 : k2 ≤ 7293034) (w :
    (vp_in (l4 + 1) (gN G)) ∧
    (vp_in (l4 + 2) (gN G)) ∧
    (h.1[l1]? = some (0, 10)) ∧
    ci G d m_X11_put [.ref l1, .int (gX G (l4 + 1 : Int32).toNatClampNeg), .int (gX G (l4 + 2 : Int32).toNatClampNeg)] h fun r1 h2 =>
    (vp_in (l4 + 1) (gN G)) ∧
    (vp_in (l4 + 2) (gN G)) ∧
    (h2.1[l2]? = some (0, 11)) ∧
    ci G d m_X12_put [.ref l2, .int (gX G (l4 + 1 : Int32).toNatClampNeg), .int (gX G (l4 + 2 : Int32).toNatClampNeg)] h2 fun r3 h4 =>
    if r1 = r3 then (
      Wp G ((yL_law, cL_law, 7, (Option.some Jvm.ClassFile.FieldType.boolean)), d + 1, 601024, 7293034, post) (k1, k2) 23 [.ref 1200, .ref l1, .ref l2, .ref l3, .int (l4 + 7), .null, .null] [] h4
    ) else (
      (k1 ≤ 601024) ∧
      (k2 ≤ 7293034) ∧
      post (some (.int 0)) h4
    )) :
    Wp G ((yL_law, cL_law, 7, (Option.some Jvm.ClassFile.FieldType.boolean)), d + 1, 601024, 7293034, post) (k1, k2) 566 [.ref 1200, .ref l1, .ref l2, .ref l3, .int l4, .null, .null] [] h := by
  refine w_aload_n dL_law_566 rfl ?_
  refine w_aload_n dL_law_567 rfl ?_
  refine w_iload dL_law_568 rfl ?_
  refine w_iconst (v := 1) dL_law_570 rfl ?_
  refine w_iadd dL_law_571 ?_
  obtain ⟨e1, w⟩ := w
  refine w_sald dL_law_572 e1 ?_
  refine w_aload_n dL_law_573 rfl ?_
  refine w_iload dL_law_574 rfl ?_
  refine w_iconst (v := 2) dL_law_576 rfl ?_
  refine w_iadd dL_law_577 ?_
  obtain ⟨e2, w⟩ := w
  refine w_sald dL_law_578 e2 ?_
  obtain ⟨e3, w⟩ := w
  refine w_callV (As := [.int (gX G (l4 + 1 : Int32).toNatClampNeg), .int (gX G (l4 + 2 : Int32).toNatClampNeg)]) (st := []) dL_law_579 mt_X11_put g_960 g_961 g_962 rfl e3 rfl rfl (Nat.le_of_ble_eq_true rfl) (Nat.le_refl _) ⟨hk1, hk2⟩ w ?_
  rintro v h2 ⟨r1, rfl, w⟩
  refine w_aload_n dL_law_582 rfl ?_
  refine w_aload_n dL_law_583 rfl ?_
  refine w_iload dL_law_584 rfl ?_
  refine w_iconst (v := 1) dL_law_586 rfl ?_
  refine w_iadd dL_law_587 ?_
  obtain ⟨e1, w⟩ := w
  refine w_sald dL_law_588 e1 ?_
  refine w_aload_n dL_law_589 rfl ?_
  refine w_iload dL_law_590 rfl ?_
  refine w_iconst (v := 2) dL_law_592 rfl ?_
  refine w_iadd dL_law_593 ?_
  obtain ⟨e2, w⟩ := w
  refine w_sald dL_law_594 e2 ?_
  obtain ⟨e3, w⟩ := w
  refine w_callV (As := [.int (gX G (l4 + 1 : Int32).toNatClampNeg), .int (gX G (l4 + 2 : Int32).toNatClampNeg)]) (st := [.int r1]) dL_law_595 mt_X12_put g_1683 g_1684 g_1685 rfl e3 rfl rfl (Nat.le_of_ble_eq_true rfl) (Nat.le_refl _) ⟨hk1, hk2⟩ w ?_
  rintro v h4 ⟨r3, rfl, w⟩
  refine w_ic_eq (tgt := 1455) dL_law_598 rfl (fun c => ?_) (fun c => ?_)
  · rw [if_pos c] at w
    refine v_iinc (l' := [.ref 1200, .ref l1, .ref l2, .ref l3, .int (l4 + 7), .null, .null]) (v := l4 + 7) dL_law_1455 rfl rfl (Nat.le_of_ble_eq_true rfl) rfl ?_
    refine w_goto (tgt := 23) dL_law_1458 rfl ?_
    exact w
  · rw [if_neg c] at w
    refine w_iconst (v := 0) dL_law_601 rfl ?_
    obtain ⟨e1, w⟩ := w
    obtain ⟨e2, w⟩ := w
    exact w_ireturn dL_law_602 rfl rfl ⟨e1, e2⟩ w
set_option maxRecDepth 20000 in
set_option maxHeartbeats 4000000 in
theorem x_L_law_603 {G : pm_G} {d : Nat} {post : pm_PT} {h : pm_H} {k1 k2 : Nat} {l1 : Nat} {l2 : Nat} {l3 : Nat} {l4 : Int32} (hk1 : k1 ≤ 601024) (hk2 : k2 ≤ 7293034) (w :
    (vp_in (l4 + 1) (gN G)) ∧
    (h.1[l1]? = some (0, 10)) ∧
    ci G d m_X11_take [.ref l1, .int (gX G (l4 + 1 : Int32).toNatClampNeg)] h fun r1 h2 =>
    (vp_in (l4 + 1) (gN G)) ∧
    (h2.1[l2]? = some (0, 11)) ∧
    ci G d m_X12_take [.ref l2, .int (gX G (l4 + 1 : Int32).toNatClampNeg)] h2 fun r3 h4 =>
    if r1 = r3 then (
      Wp G ((yL_law, cL_law, 7, (Option.some Jvm.ClassFile.FieldType.boolean)), d + 1, 601024, 7293034, post) (k1, k2) 23 [.ref 1200, .ref l1, .ref l2, .ref l3, .int (l4 + 7), .null, .null] [] h4
    ) else (
      (k1 ≤ 601024) ∧
      (k2 ≤ 7293034) ∧
      post (some (.int 0)) h4
    )) :
    Wp G ((yL_law, cL_law, 7, (Option.some Jvm.ClassFile.FieldType.boolean)), d + 1, 601024, 7293034, post) (k1, k2) 603 [.ref 1200, .ref l1, .ref l2, .ref l3, .int l4, .null, .null] [] h := by
  refine w_aload_n dL_law_603 rfl ?_
  refine w_aload_n dL_law_604 rfl ?_
  refine w_iload dL_law_605 rfl ?_
  refine w_iconst (v := 1) dL_law_607 rfl ?_
  refine w_iadd dL_law_608 ?_
  obtain ⟨e1, w⟩ := w
  refine w_sald dL_law_609 e1 ?_
  obtain ⟨e2, w⟩ := w
  refine w_callV (As := [.int (gX G (l4 + 1 : Int32).toNatClampNeg)]) (st := []) dL_law_610 mt_X11_take g_979 g_980 g_981 rfl e2 rfl rfl (Nat.le_of_ble_eq_true rfl) (Nat.le_refl _) ⟨hk1, hk2⟩ w ?_
  rintro v h2 ⟨r1, rfl, w⟩
  refine w_aload_n dL_law_613 rfl ?_
  refine w_aload_n dL_law_614 rfl ?_
  refine w_iload dL_law_615 rfl ?_
  refine w_iconst (v := 1) dL_law_617 rfl ?_
  refine w_iadd dL_law_618 ?_
  obtain ⟨e1, w⟩ := w
  refine w_sald dL_law_619 e1 ?_
  obtain ⟨e2, w⟩ := w
  refine w_callV (As := [.int (gX G (l4 + 1 : Int32).toNatClampNeg)]) (st := [.int r1]) dL_law_620 mt_X12_take g_1707 g_1708 g_1709 rfl e2 rfl rfl (Nat.le_of_ble_eq_true rfl) (Nat.le_refl _) ⟨hk1, hk2⟩ w ?_
  rintro v h4 ⟨r3, rfl, w⟩
  refine w_ic_eq (tgt := 1455) dL_law_623 rfl (fun c => ?_) (fun c => ?_)
  · rw [if_pos c] at w
    refine v_iinc (l' := [.ref 1200, .ref l1, .ref l2, .ref l3, .int (l4 + 7), .null, .null]) (v := l4 + 7) dL_law_1455 rfl rfl (Nat.le_of_ble_eq_true rfl) rfl ?_
    refine w_goto (tgt := 23) dL_law_1458 rfl ?_
    exact w
  · rw [if_neg c] at w
    refine w_iconst (v := 0) dL_law_626 rfl ?_
    obtain ⟨e1, w⟩ := w
    obtain ⟨e2, w⟩ := w
    exact w_ireturn dL_law_627 rfl rfl ⟨e1, e2⟩ w
set_option maxRecDepth 20000 in
set_option maxHeartbeats 4000000 in
theorem x_L_law_628 {G : pm_G} {d : Nat} {post : pm_PT} {h : pm_H} {k1 k2 : Nat} {l1 : Nat} {l2 : Nat} {l3 : Nat} {l4 : Int32} (hk1 : k1 ≤ 601024) (hk2 : k2 ≤ 7293034) (w :
    (vp_in (l4 + 1) (gN G)) ∧
    (vp_in (l4 + 2) (gN G)) ∧
    (h.1[l1]? = some (0, 10)) ∧
    ci G d m_X11_meld [.ref l1, .int (gX G (l4 + 1 : Int32).toNatClampNeg), .int (gX G (l4 + 2 : Int32).toNatClampNeg)] h fun r1 h2 =>
    (vp_in (l4 + 1) (gN G)) ∧
    (vp_in (l4 + 2) (gN G)) ∧
    (h2.1[l2]? = some (0, 11)) ∧
    ci G d m_X12_meld [.ref l2, .int (gX G (l4 + 1 : Int32).toNatClampNeg), .int (gX G (l4 + 2 : Int32).toNatClampNeg)] h2 fun r3 h4 =>
    if r1 = r3 then (
      Wp G ((yL_law, cL_law, 7, (Option.some Jvm.ClassFile.FieldType.boolean)), d + 1, 601024, 7293034, post) (k1, k2) 23 [.ref 1200, .ref l1, .ref l2, .ref l3, .int (l4 + 7), .null, .null] [] h4
    ) else (
      (k1 ≤ 601024) ∧
      (k2 ≤ 7293034) ∧
      post (some (.int 0)) h4
    )) :
    Wp G ((yL_law, cL_law, 7, (Option.some Jvm.ClassFile.FieldType.boolean)), d + 1, 601024, 7293034, post) (k1, k2) 628 [.ref 1200, .ref l1, .ref l2, .ref l3, .int l4, .null, .null] [] h := by
  refine w_aload_n dL_law_628 rfl ?_
  refine w_aload_n dL_law_629 rfl ?_
  refine w_iload dL_law_630 rfl ?_
  refine w_iconst (v := 1) dL_law_632 rfl ?_
  refine w_iadd dL_law_633 ?_
  obtain ⟨e1, w⟩ := w
  refine w_sald dL_law_634 e1 ?_
  refine w_aload_n dL_law_635 rfl ?_
  refine w_iload dL_law_636 rfl ?_
  refine w_iconst (v := 2) dL_law_638 rfl ?_
  refine w_iadd dL_law_639 ?_
  obtain ⟨e2, w⟩ := w
  refine w_sald dL_law_640 e2 ?_
  obtain ⟨e3, w⟩ := w
  refine w_callV (As := [.int (gX G (l4 + 1 : Int32).toNatClampNeg), .int (gX G (l4 + 2 : Int32).toNatClampNeg)]) (st := []) dL_law_641 mt_X11_meld g_991 g_992 g_993 rfl e3 rfl rfl (Nat.le_of_ble_eq_true rfl) (Nat.le_refl _) ⟨hk1, hk2⟩ w ?_
  rintro v h2 ⟨r1, rfl, w⟩
  refine w_aload_n dL_law_644 rfl ?_
  refine w_aload_n dL_law_645 rfl ?_
  refine w_iload dL_law_646 rfl ?_
  refine w_iconst (v := 1) dL_law_648 rfl ?_
  refine w_iadd dL_law_649 ?_
  obtain ⟨e1, w⟩ := w
  refine w_sald dL_law_650 e1 ?_
  refine w_aload_n dL_law_651 rfl ?_
  refine w_iload dL_law_652 rfl ?_
  refine w_iconst (v := 2) dL_law_654 rfl ?_
  refine w_iadd dL_law_655 ?_
  obtain ⟨e2, w⟩ := w
  refine w_sald dL_law_656 e2 ?_
  obtain ⟨e3, w⟩ := w
  refine w_callV (As := [.int (gX G (l4 + 1 : Int32).toNatClampNeg), .int (gX G (l4 + 2 : Int32).toNatClampNeg)]) (st := [.int r1]) dL_law_657 mt_X12_meld g_1719 g_1720 g_1721 rfl e3 rfl rfl (Nat.le_of_ble_eq_true rfl) (Nat.le_refl _) ⟨hk1, hk2⟩ w ?_
  rintro v h4 ⟨r3, rfl, w⟩
  refine w_ic_eq (tgt := 1455) dL_law_660 rfl (fun c => ?_) (fun c => ?_)
  · rw [if_pos c] at w
    refine v_iinc (l' := [.ref 1200, .ref l1, .ref l2, .ref l3, .int (l4 + 7), .null, .null]) (v := l4 + 7) dL_law_1455 rfl rfl (Nat.le_of_ble_eq_true rfl) rfl ?_
    refine w_goto (tgt := 23) dL_law_1458 rfl ?_
    exact w
  · rw [if_neg c] at w
    refine w_iconst (v := 0) dL_law_663 rfl ?_
    obtain ⟨e1, w⟩ := w
    obtain ⟨e2, w⟩ := w
    exact w_ireturn dL_law_664 rfl rfl ⟨e1, e2⟩ w
set_option maxRecDepth 20000 in
set_option maxHeartbeats 4000000 in
theorem x_L_law_665 {G : pm_G} {d : Nat} {post : pm_PT} {h : pm_H} {k1 k2 : Nat} {l1 : Nat} {l2 : Nat} {l3 : Nat} {l4 : Int32} (hk1 : k1 ≤ 601024) (hk2 : k2 ≤ 7293034) (w :
    (vp_in (l4 + 1) (gN G)) ∧
    (vp_in (l4 + 2) (gN G)) ∧
    (h.1[l1]? = some (0, 10)) ∧
    ci G d m_X11_shelve [.ref l1, .int (gX G (l4 + 1 : Int32).toNatClampNeg), .int (gX G (l4 + 2 : Int32).toNatClampNeg)] h fun r1 h2 =>
    (vp_in (l4 + 1) (gN G)) ∧
    (vp_in (l4 + 2) (gN G)) ∧
    (h2.1[l2]? = some (0, 11)) ∧
    ci G d m_X12_shelve [.ref l2, .int (gX G (l4 + 1 : Int32).toNatClampNeg), .int (gX G (l4 + 2 : Int32).toNatClampNeg)] h2 fun r3 h4 =>
    if r1 = r3 then (
      Wp G ((yL_law, cL_law, 7, (Option.some Jvm.ClassFile.FieldType.boolean)), d + 1, 601024, 7293034, post) (k1, k2) 23 [.ref 1200, .ref l1, .ref l2, .ref l3, .int (l4 + 7), .null, .null] [] h4
    ) else (
      (k1 ≤ 601024) ∧
      (k2 ≤ 7293034) ∧
      post (some (.int 0)) h4
    )) :
    Wp G ((yL_law, cL_law, 7, (Option.some Jvm.ClassFile.FieldType.boolean)), d + 1, 601024, 7293034, post) (k1, k2) 665 [.ref 1200, .ref l1, .ref l2, .ref l3, .int l4, .null, .null] [] h := by
  refine w_aload_n dL_law_665 rfl ?_
  refine w_aload_n dL_law_666 rfl ?_
  refine w_iload dL_law_667 rfl ?_
  refine w_iconst (v := 1) dL_law_669 rfl ?_
  refine w_iadd dL_law_670 ?_
  obtain ⟨e1, w⟩ := w
  refine w_sald dL_law_671 e1 ?_
  refine w_aload_n dL_law_672 rfl ?_
  refine w_iload dL_law_673 rfl ?_
  refine w_iconst (v := 2) dL_law_675 rfl ?_
  refine w_iadd dL_law_676 ?_
  obtain ⟨e2, w⟩ := w
  refine w_sald dL_law_677 e2 ?_
  obtain ⟨e3, w⟩ := w
  refine w_callV (As := [.int (gX G (l4 + 1 : Int32).toNatClampNeg), .int (gX G (l4 + 2 : Int32).toNatClampNeg)]) (st := []) dL_law_678 mt_X11_shelve g_999 g_1000 g_1001 rfl e3 rfl rfl (Nat.le_of_ble_eq_true rfl) (Nat.le_refl _) ⟨hk1, hk2⟩ w ?_
  rintro v h2 ⟨r1, rfl, w⟩
  refine w_aload_n dL_law_681 rfl ?_
  refine w_aload_n dL_law_682 rfl ?_
  refine w_iload dL_law_683 rfl ?_
  refine w_iconst (v := 1) dL_law_685 rfl ?_
  refine w_iadd dL_law_686 ?_
  obtain ⟨e1, w⟩ := w
  refine w_sald dL_law_687 e1 ?_
  refine w_aload_n dL_law_688 rfl ?_
  refine w_iload dL_law_689 rfl ?_
  refine w_iconst (v := 2) dL_law_691 rfl ?_
  refine w_iadd dL_law_692 ?_
  obtain ⟨e2, w⟩ := w
  refine w_sald dL_law_693 e2 ?_
  obtain ⟨e3, w⟩ := w
  refine w_callV (As := [.int (gX G (l4 + 1 : Int32).toNatClampNeg), .int (gX G (l4 + 2 : Int32).toNatClampNeg)]) (st := [.int r1]) dL_law_694 mt_X12_shelve g_1727 g_1728 g_1729 rfl e3 rfl rfl (Nat.le_of_ble_eq_true rfl) (Nat.le_refl _) ⟨hk1, hk2⟩ w ?_
  rintro v h4 ⟨r3, rfl, w⟩
  refine w_ic_eq (tgt := 1455) dL_law_697 rfl (fun c => ?_) (fun c => ?_)
  · rw [if_pos c] at w
    refine v_iinc (l' := [.ref 1200, .ref l1, .ref l2, .ref l3, .int (l4 + 7), .null, .null]) (v := l4 + 7) dL_law_1455 rfl rfl (Nat.le_of_ble_eq_true rfl) rfl ?_
    refine w_goto (tgt := 23) dL_law_1458 rfl ?_
    exact w
  · rw [if_neg c] at w
    refine w_iconst (v := 0) dL_law_700 rfl ?_
    obtain ⟨e1, w⟩ := w
    obtain ⟨e2, w⟩ := w
    exact w_ireturn dL_law_701 rfl rfl ⟨e1, e2⟩ w
set_option maxRecDepth 20000 in
set_option maxHeartbeats 4000000 in
theorem x_L_law_702 {G : pm_G} {d : Nat} {post : pm_PT} {h : pm_H} {k1 k2 : Nat} {l1 : Nat} {l2 : Nat} {l3 : Nat} {l4 : Int32} (hk1 : k1 ≤ 601024) (hk2 : k2 ≤ 7293034) (w :
    (h.1[l1]? = some (0, 10)) ∧
    ci G d m_X11_undo [.ref l1] h fun r1 h2 =>
    (h2.1[l2]? = some (0, 11)) ∧
    ci G d m_X12_undo [.ref l2] h2 fun r3 h4 =>
    if r1 = r3 then (
      Wp G ((yL_law, cL_law, 7, (Option.some Jvm.ClassFile.FieldType.boolean)), d + 1, 601024, 7293034, post) (k1, k2) 23 [.ref 1200, .ref l1, .ref l2, .ref l3, .int (l4 + 7), .null, .null] [] h4
    ) else (
      (k1 ≤ 601024) ∧
      (k2 ≤ 7293034) ∧
      post (some (.int 0)) h4
    )) :
    Wp G ((yL_law, cL_law, 7, (Option.some Jvm.ClassFile.FieldType.boolean)), d + 1, 601024, 7293034, post) (k1, k2) 702 [.ref 1200, .ref l1, .ref l2, .ref l3, .int l4, .null, .null] [] h := by
  refine w_aload_n dL_law_702 rfl ?_
  obtain ⟨e1, w⟩ := w
  refine w_callV (As := []) (st := []) dL_law_703 mt_X11_undo g_1012 g_1013 g_1014 rfl e1 rfl rfl (Nat.le_of_ble_eq_true rfl) (Nat.le_refl _) ⟨hk1, hk2⟩ w ?_
  rintro v h2 ⟨r1, rfl, w⟩
  refine w_aload_n dL_law_706 rfl ?_
  obtain ⟨e1, w⟩ := w
  refine w_callV (As := []) (st := [.int r1]) dL_law_707 mt_X12_undo g_1746 g_1747 g_1748 rfl e1 rfl rfl (Nat.le_of_ble_eq_true rfl) (Nat.le_refl _) ⟨hk1, hk2⟩ w ?_
  rintro v h4 ⟨r3, rfl, w⟩
  refine w_ic_eq (tgt := 1455) dL_law_710 rfl (fun c => ?_) (fun c => ?_)
  · rw [if_pos c] at w
    refine v_iinc (l' := [.ref 1200, .ref l1, .ref l2, .ref l3, .int (l4 + 7), .null, .null]) (v := l4 + 7) dL_law_1455 rfl rfl (Nat.le_of_ble_eq_true rfl) rfl ?_
    refine w_goto (tgt := 23) dL_law_1458 rfl ?_
    exact w
  · rw [if_neg c] at w
    refine w_iconst (v := 0) dL_law_713 rfl ?_
    obtain ⟨e1, w⟩ := w
    obtain ⟨e2, w⟩ := w
    exact w_ireturn dL_law_714 rfl rfl ⟨e1, e2⟩ w
set_option maxRecDepth 20000 in
set_option maxHeartbeats 4000000 in
theorem x_L_law_715 {G : pm_G} {d : Nat} {post : pm_PT} {h : pm_H} {k1 k2 : Nat} {l1 : Nat} {l2 : Nat} {l3 : Nat} {l4 : Int32} (hk1 : k1 ≤ 601024) (hk2 : k2 ≤ 7293034) (w :
    (vp_in (l4 + 1) (gN G)) ∧
    (h.1[l1]? = some (0, 10)) ∧
    ci G d m_X11_judged [.ref l1, .int (gX G (l4 + 1 : Int32).toNatClampNeg)] h fun r1 h2 =>
    (vp_in (l4 + 1) (gN G)) ∧
    (h2.1[l2]? = some (0, 11)) ∧
    ci G d m_X12_judged [.ref l2, .int (gX G (l4 + 1 : Int32).toNatClampNeg)] h2 fun r3 h4 =>
    if r1 = r3 then (
      Wp G ((yL_law, cL_law, 7, (Option.some Jvm.ClassFile.FieldType.boolean)), d + 1, 601024, 7293034, post) (k1, k2) 23 [.ref 1200, .ref l1, .ref l2, .ref l3, .int (l4 + 7), .null, .null] [] h4
    ) else (
      (k1 ≤ 601024) ∧
      (k2 ≤ 7293034) ∧
      post (some (.int 0)) h4
    )) :
    Wp G ((yL_law, cL_law, 7, (Option.some Jvm.ClassFile.FieldType.boolean)), d + 1, 601024, 7293034, post) (k1, k2) 715 [.ref 1200, .ref l1, .ref l2, .ref l3, .int l4, .null, .null] [] h := by
  refine w_aload_n dL_law_715 rfl ?_
  refine w_aload_n dL_law_716 rfl ?_
  refine w_iload dL_law_717 rfl ?_
  refine w_iconst (v := 1) dL_law_719 rfl ?_
  refine w_iadd dL_law_720 ?_
  obtain ⟨e1, w⟩ := w
  refine w_sald dL_law_721 e1 ?_
  obtain ⟨e2, w⟩ := w
  refine w_callV (As := [.int (gX G (l4 + 1 : Int32).toNatClampNeg)]) (st := []) dL_law_722 mt_X11_judged g_1016 g_1017 g_1018 rfl e2 rfl rfl (Nat.le_of_ble_eq_true rfl) (Nat.le_refl _) ⟨hk1, hk2⟩ w ?_
  rintro v h2 ⟨r1, rfl, w⟩
  refine w_aload_n dL_law_725 rfl ?_
  refine w_aload_n dL_law_726 rfl ?_
  refine w_iload dL_law_727 rfl ?_
  refine w_iconst (v := 1) dL_law_729 rfl ?_
  refine w_iadd dL_law_730 ?_
  obtain ⟨e1, w⟩ := w
  refine w_sald dL_law_731 e1 ?_
  obtain ⟨e2, w⟩ := w
  refine w_callV (As := [.int (gX G (l4 + 1 : Int32).toNatClampNeg)]) (st := [.int r1]) dL_law_732 mt_X12_judged g_1750 g_1751 g_1752 rfl e2 rfl rfl (Nat.le_of_ble_eq_true rfl) (Nat.le_refl _) ⟨hk1, hk2⟩ w ?_
  rintro v h4 ⟨r3, rfl, w⟩
  refine w_ic_eq (tgt := 1455) dL_law_735 rfl (fun c => ?_) (fun c => ?_)
  · rw [if_pos c] at w
    refine v_iinc (l' := [.ref 1200, .ref l1, .ref l2, .ref l3, .int (l4 + 7), .null, .null]) (v := l4 + 7) dL_law_1455 rfl rfl (Nat.le_of_ble_eq_true rfl) rfl ?_
    refine w_goto (tgt := 23) dL_law_1458 rfl ?_
    exact w
  · rw [if_neg c] at w
    refine w_iconst (v := 0) dL_law_738 rfl ?_
    obtain ⟨e1, w⟩ := w
    obtain ⟨e2, w⟩ := w
    exact w_ireturn dL_law_739 rfl rfl ⟨e1, e2⟩ w
set_option maxRecDepth 20000 in
set_option maxHeartbeats 4000000 in
theorem x_L_law_740 {G : pm_G} {d : Nat} {post : pm_PT} {h : pm_H} {k1 k2 : Nat} {l1 : Nat} {l2 : Nat} {l3 : Nat} {l4 : Int32} (hk1 : k1 ≤ 601024) (hk2 : k2 ≤ 7293034) (w :
    (vp_in (l4 + 1) (gN G)) ∧
    (h.1[l1]? = some (0, 10)) ∧
    ci G d m_X11_first [.ref l1, .int (gX G (l4 + 1 : Int32).toNatClampNeg)] h fun r1 h2 =>
    (vp_in (l4 + 1) (gN G)) ∧
    (h2.1[l2]? = some (0, 11)) ∧
    ci G d m_X12_first [.ref l2, .int (gX G (l4 + 1 : Int32).toNatClampNeg)] h2 fun r3 h4 =>
    if r1 = r3 then (
      Wp G ((yL_law, cL_law, 7, (Option.some Jvm.ClassFile.FieldType.boolean)), d + 1, 601024, 7293034, post) (k1, k2) 23 [.ref 1200, .ref l1, .ref l2, .ref l3, .int (l4 + 7), .null, .null] [] h4
    ) else (
      (k1 ≤ 601024) ∧
      (k2 ≤ 7293034) ∧
      post (some (.int 0)) h4
    )) :
    Wp G ((yL_law, cL_law, 7, (Option.some Jvm.ClassFile.FieldType.boolean)), d + 1, 601024, 7293034, post) (k1, k2) 740 [.ref 1200, .ref l1, .ref l2, .ref l3, .int l4, .null, .null] [] h := by
  refine w_aload_n dL_law_740 rfl ?_
  refine w_aload_n dL_law_741 rfl ?_
  refine w_iload dL_law_742 rfl ?_
  refine w_iconst (v := 1) dL_law_744 rfl ?_
  refine w_iadd dL_law_745 ?_
  obtain ⟨e1, w⟩ := w
  refine w_sald dL_law_746 e1 ?_
  obtain ⟨e2, w⟩ := w
  refine w_callV (As := [.int (gX G (l4 + 1 : Int32).toNatClampNeg)]) (st := []) dL_law_747 mt_X11_first g_1042 g_1043 g_1044 rfl e2 rfl rfl (Nat.le_of_ble_eq_true rfl) (Nat.le_refl _) ⟨hk1, hk2⟩ w ?_
  rintro v h2 ⟨r1, rfl, w⟩
  refine w_aload_n dL_law_750 rfl ?_
  refine w_aload_n dL_law_751 rfl ?_
  refine w_iload dL_law_752 rfl ?_
  refine w_iconst (v := 1) dL_law_754 rfl ?_
  refine w_iadd dL_law_755 ?_
  obtain ⟨e1, w⟩ := w
  refine w_sald dL_law_756 e1 ?_
  obtain ⟨e2, w⟩ := w
  refine w_callV (As := [.int (gX G (l4 + 1 : Int32).toNatClampNeg)]) (st := [.int r1]) dL_law_757 mt_X12_first g_1810 g_1811 g_1812 rfl e2 rfl rfl (Nat.le_of_ble_eq_true rfl) (Nat.le_refl _) ⟨hk1, hk2⟩ w ?_
  rintro v h4 ⟨r3, rfl, w⟩
  refine w_ic_eq (tgt := 1455) dL_law_760 rfl (fun c => ?_) (fun c => ?_)
  · rw [if_pos c] at w
    refine v_iinc (l' := [.ref 1200, .ref l1, .ref l2, .ref l3, .int (l4 + 7), .null, .null]) (v := l4 + 7) dL_law_1455 rfl rfl (Nat.le_of_ble_eq_true rfl) rfl ?_
    refine w_goto (tgt := 23) dL_law_1458 rfl ?_
    exact w
  · rw [if_neg c] at w
    refine w_iconst (v := 0) dL_law_763 rfl ?_
    obtain ⟨e1, w⟩ := w
    obtain ⟨e2, w⟩ := w
    exact w_ireturn dL_law_764 rfl rfl ⟨e1, e2⟩ w
set_option maxRecDepth 20000 in
set_option maxHeartbeats 4000000 in
theorem x_L_law_765 {G : pm_G} {d : Nat} {post : pm_PT} {h : pm_H} {k1 k2 : Nat} {l1 : Nat} {l2 : Nat} {l3 : Nat} {l4 : Int32} (hk1 : k1 ≤ 601024) (hk2 : k2 ≤ 7293034) (w :
    (vp_in (l4 + 1) (gN G)) ∧
    (vp_in (l4 + 2) (gN G)) ∧
    (k1 + 1 ≤ 601024) ∧
    (k2 + 6 ≤ 7293034) ∧
    ct' G d m_L_comes [(0, 10, 13, 13)] [.ref l1, .int (gX G (l4 + 1 : Int32).toNatClampNeg), .int (gX G (l4 + 2 : Int32).toNatClampNeg), .ref l3] h fun r1 h2 =>
    (vp_in (l4 + 1) (gN G)) ∧
    (vp_in (l4 + 2) (gN G)) ∧
    (h2.1[l2]? = some (0, 11)) ∧
    ci G d m_X12_comes [.ref l2, .int (gX G (l4 + 1 : Int32).toNatClampNeg), .int (gX G (l4 + 2 : Int32).toNatClampNeg)] h2 fun r3 h4 =>
    (h4.1[l2]? = some (0, 11)) ∧
    ci G d m_X12_thrown [.ref l2] h4 fun r5 h6 =>
    if r5 = r1 then (
      if r1 = 0 then (
        ∃ n7 : Nat, h6.1[l3]? = some (2, n7) ∧
        (vp_in 0 n7) ∧
        if (lg_cmp (gj h6 l3 (0 : Int32).toNatClampNeg) ((r3 : Int32).toInt64)) = 0 then (
          Wp G ((yL_law, cL_law, 7, (Option.some Jvm.ClassFile.FieldType.boolean)), d + 1, 601024, 7293034, post) (k1 + 1, k2 + 6) 23 [.ref 1200, .ref l1, .ref l2, .ref l3, .int (l4 + 7), .null, .null] [] h6
        ) else (
          (k1 + 1 ≤ 601024) ∧
          (k2 + 6 ≤ 7293034) ∧
          post (some (.int 0)) h6
        )
      ) else (
        Wp G ((yL_law, cL_law, 7, (Option.some Jvm.ClassFile.FieldType.boolean)), d + 1, 601024, 7293034, post) (k1 + 1, k2 + 6) 23 [.ref 1200, .ref l1, .ref l2, .ref l3, .int (l4 + 7), .null, .null] [] h6
      )
    ) else (
      (k1 + 1 ≤ 601024) ∧
      (k2 + 6 ≤ 7293034) ∧
      post (some (.int 0)) h6
    )) :
    Wp G ((yL_law, cL_law, 7, (Option.some Jvm.ClassFile.FieldType.boolean)), d + 1, 601024, 7293034, post) (k1, k2) 765 [.ref 1200, .ref l1, .ref l2, .ref l3, .int l4, .null, .null] [] h := by
  refine w_aload_n dL_law_765 rfl ?_
  refine w_aload_n dL_law_766 rfl ?_
  refine w_iload dL_law_767 rfl ?_
  refine w_iconst (v := 1) dL_law_769 rfl ?_
  refine w_iadd dL_law_770 ?_
  obtain ⟨e1, w⟩ := w
  refine w_sald dL_law_771 e1 ?_
  refine w_aload_n dL_law_772 rfl ?_
  refine w_iload dL_law_773 rfl ?_
  refine w_iconst (v := 2) dL_law_775 rfl ?_
  refine w_iadd dL_law_776 ?_
  obtain ⟨e2, w⟩ := w
  refine w_sald dL_law_777 e2 ?_
  refine w_aload_n dL_law_778 rfl ?_
  obtain ⟨e3, w⟩ := w
  obtain ⟨e4, w⟩ := w
  refine w_callT (mi := m_L_comes) (n := 4) (As := [.ref l1, .int (gX G (l4 + 1 : Int32).toNatClampNeg), .int (gX G (l4 + 2 : Int32).toNatClampNeg), .ref l3]) (st := []) dL_law_779 g_1236 g_132 ⟨by decide, by decide, by decide +kernel⟩ (by decide) g_1234 g_1235 rfl rfl (Nat.le_of_ble_eq_true rfl) (Nat.le_refl _) ⟨e3, e4⟩ w ?_
  rintro r1 h2 w
  refine v_istore (l' := [.ref 1200, .ref l1, .ref l2, .ref l3, .int l4, .int r1, .null]) dL_law_782 (Nat.le_of_ble_eq_true rfl) rfl ?_
  refine w_aload_n dL_law_784 rfl ?_
  refine w_aload_n dL_law_785 rfl ?_
  refine w_iload dL_law_786 rfl ?_
  refine w_iconst (v := 1) dL_law_788 rfl ?_
  refine w_iadd dL_law_789 ?_
  obtain ⟨e1, w⟩ := w
  refine w_sald dL_law_790 e1 ?_
  refine w_aload_n dL_law_791 rfl ?_
  refine w_iload dL_law_792 rfl ?_
  refine w_iconst (v := 2) dL_law_794 rfl ?_
  refine w_iadd dL_law_795 ?_
  obtain ⟨e2, w⟩ := w
  refine w_sald dL_law_796 e2 ?_
  obtain ⟨e3, w⟩ := w
  refine w_callV (As := [.int (gX G (l4 + 1 : Int32).toNatClampNeg), .int (gX G (l4 + 2 : Int32).toNatClampNeg)]) (st := []) dL_law_797 mt_X12_comes g_1814 g_1815 g_1816 rfl e3 rfl rfl (Nat.le_of_ble_eq_true rfl) (Nat.le_refl _) ⟨by show k1 + 1 ≤ 601024; omega, by show k2 + 6 ≤ 7293034; omega⟩ w ?_
  rintro v h4 ⟨r3, rfl, w⟩
  refine v_istore (l' := [.ref 1200, .ref l1, .ref l2, .ref l3, .int l4, .int r1, .int r3]) dL_law_800 (Nat.le_of_ble_eq_true rfl) rfl ?_
  refine w_aload_n dL_law_802 rfl ?_
  obtain ⟨e1, w⟩ := w
  refine w_callV (As := []) (st := []) dL_law_803 mt_X12_thrown g_1316 g_1317 g_1318 rfl e1 rfl rfl (Nat.le_of_ble_eq_true rfl) (Nat.le_refl _) ⟨by show k1 + 1 ≤ 601024; omega, by show k2 + 6 ≤ 7293034; omega⟩ w ?_
  rintro v h6 ⟨r5, rfl, w⟩
  refine w_iload dL_law_806 rfl ?_
  refine w_ic_eq (tgt := 813) dL_law_808 rfl (fun c => ?_) (fun c => ?_)
  · rw [if_pos c] at w
    refine w_iload dL_law_813 rfl ?_
    refine w_if_ne (tgt := 830) dL_law_815 rfl (fun c => ?_) (fun c => ?_)
    · rw [if_neg c] at w
      refine w_goto (tgt := 1455) dL_law_830 rfl ?_
      refine v_iinc (l' := [.ref 1200, .ref l1, .ref l2, .ref l3, .int (l4 + 7), .int r1, .int r3]) (v := l4 + 7) dL_law_1455 rfl rfl (Nat.le_of_ble_eq_true rfl) rfl ?_
      refine w_goto (tgt := 23) dL_law_1458 rfl ?_
      exact w_drop (l' := [.ref 1200, .ref l1, .ref l2, .ref l3, .int (l4 + 7), .null, .null]) ⟨Or.inr rfl, Or.inr rfl, Or.inr rfl, Or.inr rfl, Or.inr rfl, Or.inl rfl, Or.inl rfl, trivial⟩ w
    · rw [if_pos c] at w
      refine w_aload_n dL_law_818 rfl ?_
      refine w_iconst (v := 0) dL_law_819 rfl ?_
      obtain ⟨n7, ln7, w⟩ := w
      obtain ⟨e2, w⟩ := w
      refine w_lald dL_law_820 ln7 e2 ?_
      refine w_iload dL_law_821 rfl ?_
      refine w_i2l dL_law_823 ?_
      refine w_lcmp dL_law_824 ?_
      refine w_if_eq (tgt := 830) dL_law_825 rfl (fun c => ?_) (fun c => ?_)
      · rw [if_pos c] at w
        refine w_goto (tgt := 1455) dL_law_830 rfl ?_
        refine v_iinc (l' := [.ref 1200, .ref l1, .ref l2, .ref l3, .int (l4 + 7), .int r1, .int r3]) (v := l4 + 7) dL_law_1455 rfl rfl (Nat.le_of_ble_eq_true rfl) rfl ?_
        refine w_goto (tgt := 23) dL_law_1458 rfl ?_
        exact w_drop (l' := [.ref 1200, .ref l1, .ref l2, .ref l3, .int (l4 + 7), .null, .null]) ⟨Or.inr rfl, Or.inr rfl, Or.inr rfl, Or.inr rfl, Or.inr rfl, Or.inl rfl, Or.inl rfl, trivial⟩ w
      · rw [if_neg c] at w
        refine w_iconst (v := 0) dL_law_828 rfl ?_
        obtain ⟨e3, w⟩ := w
        obtain ⟨e4, w⟩ := w
        exact w_ireturn dL_law_829 rfl rfl ⟨e3, e4⟩ w
  · rw [if_neg c] at w
    refine w_iconst (v := 0) dL_law_811 rfl ?_
    obtain ⟨e1, w⟩ := w
    obtain ⟨e2, w⟩ := w
    exact w_ireturn dL_law_812 rfl rfl ⟨e1, e2⟩ w
set_option maxRecDepth 20000 in
set_option maxHeartbeats 4000000 in
theorem x_L_law_833 {G : pm_G} {d : Nat} {post : pm_PT} {h : pm_H} {k1 k2 : Nat} {l1 : Nat} {l2 : Nat} {l3 : Nat} {l4 : Int32} (hk1 : k1 ≤ 601024) (hk2 : k2 ≤ 7293034) (w :
    (vp_in (l4 + 1) (gN G)) ∧
    (vp_in (l4 + 2) (gN G)) ∧
    (k1 + 1 ≤ 601024) ∧
    (k2 + 6 ≤ 7293034) ∧
    ct' G d m_L_away [(0, 10, 13, 13)] [.ref l1, .int (gX G (l4 + 1 : Int32).toNatClampNeg), .int (gX G (l4 + 2 : Int32).toNatClampNeg), .ref l3] h fun r1 h2 =>
    (vp_in (l4 + 1) (gN G)) ∧
    (vp_in (l4 + 2) (gN G)) ∧
    (h2.1[l2]? = some (0, 11)) ∧
    ci G d m_X12_away [.ref l2, .int (gX G (l4 + 1 : Int32).toNatClampNeg), .int (gX G (l4 + 2 : Int32).toNatClampNeg)] h2 fun r3 h4 =>
    (h4.1[l2]? = some (0, 11)) ∧
    ci G d m_X12_thrown [.ref l2] h4 fun r5 h6 =>
    if r5 = r1 then (
      if r1 = 0 then (
        ∃ n7 : Nat, h6.1[l3]? = some (2, n7) ∧
        (vp_in 0 n7) ∧
        if (lg_cmp (gj h6 l3 (0 : Int32).toNatClampNeg) ((r3 : Int32).toInt64)) = 0 then (
          Wp G ((yL_law, cL_law, 7, (Option.some Jvm.ClassFile.FieldType.boolean)), d + 1, 601024, 7293034, post) (k1 + 1, k2 + 6) 23 [.ref 1200, .ref l1, .ref l2, .ref l3, .int (l4 + 7), .null, .null] [] h6
        ) else (
          (k1 + 1 ≤ 601024) ∧
          (k2 + 6 ≤ 7293034) ∧
          post (some (.int 0)) h6
        )
      ) else (
        Wp G ((yL_law, cL_law, 7, (Option.some Jvm.ClassFile.FieldType.boolean)), d + 1, 601024, 7293034, post) (k1 + 1, k2 + 6) 23 [.ref 1200, .ref l1, .ref l2, .ref l3, .int (l4 + 7), .null, .null] [] h6
      )
    ) else (
      (k1 + 1 ≤ 601024) ∧
      (k2 + 6 ≤ 7293034) ∧
      post (some (.int 0)) h6
    )) :
    Wp G ((yL_law, cL_law, 7, (Option.some Jvm.ClassFile.FieldType.boolean)), d + 1, 601024, 7293034, post) (k1, k2) 833 [.ref 1200, .ref l1, .ref l2, .ref l3, .int l4, .null, .null] [] h := by
  refine w_aload_n dL_law_833 rfl ?_
  refine w_aload_n dL_law_834 rfl ?_
  refine w_iload dL_law_835 rfl ?_
  refine w_iconst (v := 1) dL_law_837 rfl ?_
  refine w_iadd dL_law_838 ?_
  obtain ⟨e1, w⟩ := w
  refine w_sald dL_law_839 e1 ?_
  refine w_aload_n dL_law_840 rfl ?_
  refine w_iload dL_law_841 rfl ?_
  refine w_iconst (v := 2) dL_law_843 rfl ?_
  refine w_iadd dL_law_844 ?_
  obtain ⟨e2, w⟩ := w
  refine w_sald dL_law_845 e2 ?_
  refine w_aload_n dL_law_846 rfl ?_
  obtain ⟨e3, w⟩ := w
  obtain ⟨e4, w⟩ := w
  refine w_callT (mi := m_L_away) (n := 4) (As := [.ref l1, .int (gX G (l4 + 1 : Int32).toNatClampNeg), .int (gX G (l4 + 2 : Int32).toNatClampNeg), .ref l3]) (st := []) dL_law_847 g_1309 g_132 ⟨by decide, by decide, by decide +kernel⟩ (by decide) g_1307 g_1308 rfl rfl (Nat.le_of_ble_eq_true rfl) (Nat.le_refl _) ⟨e3, e4⟩ w ?_
  rintro r1 h2 w
  refine v_istore (l' := [.ref 1200, .ref l1, .ref l2, .ref l3, .int l4, .int r1, .null]) dL_law_850 (Nat.le_of_ble_eq_true rfl) rfl ?_
  refine w_aload_n dL_law_852 rfl ?_
  refine w_aload_n dL_law_853 rfl ?_
  refine w_iload dL_law_854 rfl ?_
  refine w_iconst (v := 1) dL_law_856 rfl ?_
  refine w_iadd dL_law_857 ?_
  obtain ⟨e1, w⟩ := w
  refine w_sald dL_law_858 e1 ?_
  refine w_aload_n dL_law_859 rfl ?_
  refine w_iload dL_law_860 rfl ?_
  refine w_iconst (v := 2) dL_law_862 rfl ?_
  refine w_iadd dL_law_863 ?_
  obtain ⟨e2, w⟩ := w
  refine w_sald dL_law_864 e2 ?_
  obtain ⟨e3, w⟩ := w
  refine w_callV (As := [.int (gX G (l4 + 1 : Int32).toNatClampNeg), .int (gX G (l4 + 2 : Int32).toNatClampNeg)]) (st := []) dL_law_865 mt_X12_away g_1822 g_1823 g_1824 rfl e3 rfl rfl (Nat.le_of_ble_eq_true rfl) (Nat.le_refl _) ⟨by show k1 + 1 ≤ 601024; omega, by show k2 + 6 ≤ 7293034; omega⟩ w ?_
  rintro v h4 ⟨r3, rfl, w⟩
  refine v_istore (l' := [.ref 1200, .ref l1, .ref l2, .ref l3, .int l4, .int r1, .int r3]) dL_law_868 (Nat.le_of_ble_eq_true rfl) rfl ?_
  refine w_aload_n dL_law_870 rfl ?_
  obtain ⟨e1, w⟩ := w
  refine w_callV (As := []) (st := []) dL_law_871 mt_X12_thrown g_1316 g_1317 g_1318 rfl e1 rfl rfl (Nat.le_of_ble_eq_true rfl) (Nat.le_refl _) ⟨by show k1 + 1 ≤ 601024; omega, by show k2 + 6 ≤ 7293034; omega⟩ w ?_
  rintro v h6 ⟨r5, rfl, w⟩
  refine w_iload dL_law_874 rfl ?_
  refine w_ic_eq (tgt := 881) dL_law_876 rfl (fun c => ?_) (fun c => ?_)
  · rw [if_pos c] at w
    refine w_iload dL_law_881 rfl ?_
    refine w_if_ne (tgt := 898) dL_law_883 rfl (fun c => ?_) (fun c => ?_)
    · rw [if_neg c] at w
      refine w_goto (tgt := 1455) dL_law_898 rfl ?_
      refine v_iinc (l' := [.ref 1200, .ref l1, .ref l2, .ref l3, .int (l4 + 7), .int r1, .int r3]) (v := l4 + 7) dL_law_1455 rfl rfl (Nat.le_of_ble_eq_true rfl) rfl ?_
      refine w_goto (tgt := 23) dL_law_1458 rfl ?_
      exact w_drop (l' := [.ref 1200, .ref l1, .ref l2, .ref l3, .int (l4 + 7), .null, .null]) ⟨Or.inr rfl, Or.inr rfl, Or.inr rfl, Or.inr rfl, Or.inr rfl, Or.inl rfl, Or.inl rfl, trivial⟩ w
    · rw [if_pos c] at w
      refine w_aload_n dL_law_886 rfl ?_
      refine w_iconst (v := 0) dL_law_887 rfl ?_
      obtain ⟨n7, ln7, w⟩ := w
      obtain ⟨e2, w⟩ := w
      refine w_lald dL_law_888 ln7 e2 ?_
      refine w_iload dL_law_889 rfl ?_
      refine w_i2l dL_law_891 ?_
      refine w_lcmp dL_law_892 ?_
      refine w_if_eq (tgt := 898) dL_law_893 rfl (fun c => ?_) (fun c => ?_)
      · rw [if_pos c] at w
        refine w_goto (tgt := 1455) dL_law_898 rfl ?_
        refine v_iinc (l' := [.ref 1200, .ref l1, .ref l2, .ref l3, .int (l4 + 7), .int r1, .int r3]) (v := l4 + 7) dL_law_1455 rfl rfl (Nat.le_of_ble_eq_true rfl) rfl ?_
        refine w_goto (tgt := 23) dL_law_1458 rfl ?_
        exact w_drop (l' := [.ref 1200, .ref l1, .ref l2, .ref l3, .int (l4 + 7), .null, .null]) ⟨Or.inr rfl, Or.inr rfl, Or.inr rfl, Or.inr rfl, Or.inr rfl, Or.inl rfl, Or.inl rfl, trivial⟩ w
      · rw [if_neg c] at w
        refine w_iconst (v := 0) dL_law_896 rfl ?_
        obtain ⟨e3, w⟩ := w
        obtain ⟨e4, w⟩ := w
        exact w_ireturn dL_law_897 rfl rfl ⟨e3, e4⟩ w
  · rw [if_neg c] at w
    refine w_iconst (v := 0) dL_law_879 rfl ?_
    obtain ⟨e1, w⟩ := w
    obtain ⟨e2, w⟩ := w
    exact w_ireturn dL_law_880 rfl rfl ⟨e1, e2⟩ w
set_option maxRecDepth 20000 in
set_option maxHeartbeats 4000000 in
theorem x_L_law_901 {G : pm_G} {d : Nat} {post : pm_PT} {h : pm_H} {k1 k2 : Nat} {l1 : Nat} {l2 : Nat} {l3 : Nat} {l4 : Int32} (hk1 : k1 ≤ 601024) (hk2 : k2 ≤ 7293034) (w :
    (vp_in (l4 + 1) (gN G)) ∧
    (h.1[l1]? = some (0, 10)) ∧
    ci G d m_X11_wrongs [.ref l1, .int (gX G (l4 + 1 : Int32).toNatClampNeg)] h fun r1 h2 =>
    (vp_in (l4 + 1) (gN G)) ∧
    (h2.1[l2]? = some (0, 11)) ∧
    ci G d m_X12_wrongs [.ref l2, .int (gX G (l4 + 1 : Int32).toNatClampNeg)] h2 fun r3 h4 =>
    if r1 = r3 then (
      Wp G ((yL_law, cL_law, 7, (Option.some Jvm.ClassFile.FieldType.boolean)), d + 1, 601024, 7293034, post) (k1, k2) 23 [.ref 1200, .ref l1, .ref l2, .ref l3, .int (l4 + 7), .null, .null] [] h4
    ) else (
      (k1 ≤ 601024) ∧
      (k2 ≤ 7293034) ∧
      post (some (.int 0)) h4
    )) :
    Wp G ((yL_law, cL_law, 7, (Option.some Jvm.ClassFile.FieldType.boolean)), d + 1, 601024, 7293034, post) (k1, k2) 901 [.ref 1200, .ref l1, .ref l2, .ref l3, .int l4, .null, .null] [] h := by
  refine w_aload_n dL_law_901 rfl ?_
  refine w_aload_n dL_law_902 rfl ?_
  refine w_iload dL_law_903 rfl ?_
  refine w_iconst (v := 1) dL_law_905 rfl ?_
  refine w_iadd dL_law_906 ?_
  obtain ⟨e1, w⟩ := w
  refine w_sald dL_law_907 e1 ?_
  obtain ⟨e2, w⟩ := w
  refine w_callV (As := [.int (gX G (l4 + 1 : Int32).toNatClampNeg)]) (st := []) dL_law_908 mt_X11_wrongs g_1057 g_1058 g_1059 rfl e2 rfl rfl (Nat.le_of_ble_eq_true rfl) (Nat.le_refl _) ⟨hk1, hk2⟩ w ?_
  rintro v h2 ⟨r1, rfl, w⟩
  refine w_aload_n dL_law_911 rfl ?_
  refine w_aload_n dL_law_912 rfl ?_
  refine w_iload dL_law_913 rfl ?_
  refine w_iconst (v := 1) dL_law_915 rfl ?_
  refine w_iadd dL_law_916 ?_
  obtain ⟨e1, w⟩ := w
  refine w_sald dL_law_917 e1 ?_
  obtain ⟨e2, w⟩ := w
  refine w_callV (As := [.int (gX G (l4 + 1 : Int32).toNatClampNeg)]) (st := [.int r1]) dL_law_918 mt_X12_wrongs g_1838 g_1839 g_1840 rfl e2 rfl rfl (Nat.le_of_ble_eq_true rfl) (Nat.le_refl _) ⟨hk1, hk2⟩ w ?_
  rintro v h4 ⟨r3, rfl, w⟩
  refine w_ic_eq (tgt := 1455) dL_law_921 rfl (fun c => ?_) (fun c => ?_)
  · rw [if_pos c] at w
    refine v_iinc (l' := [.ref 1200, .ref l1, .ref l2, .ref l3, .int (l4 + 7), .null, .null]) (v := l4 + 7) dL_law_1455 rfl rfl (Nat.le_of_ble_eq_true rfl) rfl ?_
    refine w_goto (tgt := 23) dL_law_1458 rfl ?_
    exact w
  · rw [if_neg c] at w
    refine w_iconst (v := 0) dL_law_924 rfl ?_
    obtain ⟨e1, w⟩ := w
    obtain ⟨e2, w⟩ := w
    exact w_ireturn dL_law_925 rfl rfl ⟨e1, e2⟩ w
set_option maxRecDepth 20000 in
set_option maxHeartbeats 4000000 in
theorem x_L_law_926 {G : pm_G} {d : Nat} {post : pm_PT} {h : pm_H} {k1 k2 : Nat} {l1 : Nat} {l2 : Nat} {l3 : Nat} {l4 : Int32} (hk1 : k1 ≤ 601024) (hk2 : k2 ≤ 7293034) (w :
    (vp_in (l4 + 1) (gN G)) ∧
    (h.1[l1]? = some (0, 10)) ∧
    ci G d m_X11_far [.ref l1, .int (gX G (l4 + 1 : Int32).toNatClampNeg)] h fun r1 h2 =>
    (vp_in (l4 + 1) (gN G)) ∧
    (h2.1[l2]? = some (0, 11)) ∧
    ci G d m_X12_far [.ref l2, .int (gX G (l4 + 1 : Int32).toNatClampNeg)] h2 fun r3 h4 =>
    if r1 = r3 then (
      Wp G ((yL_law, cL_law, 7, (Option.some Jvm.ClassFile.FieldType.boolean)), d + 1, 601024, 7293034, post) (k1, k2) 23 [.ref 1200, .ref l1, .ref l2, .ref l3, .int (l4 + 7), .null, .null] [] h4
    ) else (
      (k1 ≤ 601024) ∧
      (k2 ≤ 7293034) ∧
      post (some (.int 0)) h4
    )) :
    Wp G ((yL_law, cL_law, 7, (Option.some Jvm.ClassFile.FieldType.boolean)), d + 1, 601024, 7293034, post) (k1, k2) 926 [.ref 1200, .ref l1, .ref l2, .ref l3, .int l4, .null, .null] [] h := by
  refine w_aload_n dL_law_926 rfl ?_
  refine w_aload_n dL_law_927 rfl ?_
  refine w_iload dL_law_928 rfl ?_
  refine w_iconst (v := 1) dL_law_930 rfl ?_
  refine w_iadd dL_law_931 ?_
  obtain ⟨e1, w⟩ := w
  refine w_sald dL_law_932 e1 ?_
  obtain ⟨e2, w⟩ := w
  refine w_callV (As := [.int (gX G (l4 + 1 : Int32).toNatClampNeg)]) (st := []) dL_law_933 mt_X11_far g_1066 g_1067 g_1068 rfl e2 rfl rfl (Nat.le_of_ble_eq_true rfl) (Nat.le_refl _) ⟨hk1, hk2⟩ w ?_
  rintro v h2 ⟨r1, rfl, w⟩
  refine w_aload_n dL_law_936 rfl ?_
  refine w_aload_n dL_law_937 rfl ?_
  refine w_iload dL_law_938 rfl ?_
  refine w_iconst (v := 1) dL_law_940 rfl ?_
  refine w_iadd dL_law_941 ?_
  obtain ⟨e1, w⟩ := w
  refine w_sald dL_law_942 e1 ?_
  obtain ⟨e2, w⟩ := w
  refine w_callV (As := [.int (gX G (l4 + 1 : Int32).toNatClampNeg)]) (st := [.int r1]) dL_law_943 mt_X12_far g_1842 g_1843 g_1844 rfl e2 rfl rfl (Nat.le_of_ble_eq_true rfl) (Nat.le_refl _) ⟨hk1, hk2⟩ w ?_
  rintro v h4 ⟨r3, rfl, w⟩
  refine w_ic_eq (tgt := 1455) dL_law_946 rfl (fun c => ?_) (fun c => ?_)
  · rw [if_pos c] at w
    refine v_iinc (l' := [.ref 1200, .ref l1, .ref l2, .ref l3, .int (l4 + 7), .null, .null]) (v := l4 + 7) dL_law_1455 rfl rfl (Nat.le_of_ble_eq_true rfl) rfl ?_
    refine w_goto (tgt := 23) dL_law_1458 rfl ?_
    exact w
  · rw [if_neg c] at w
    refine w_iconst (v := 0) dL_law_949 rfl ?_
    obtain ⟨e1, w⟩ := w
    obtain ⟨e2, w⟩ := w
    exact w_ireturn dL_law_950 rfl rfl ⟨e1, e2⟩ w
set_option maxRecDepth 20000 in
set_option maxHeartbeats 4000000 in
theorem x_L_law_951 {G : pm_G} {d : Nat} {post : pm_PT} {h : pm_H} {k1 k2 : Nat} {l1 : Nat} {l2 : Nat} {l3 : Nat} {l4 : Int32} (hk1 : k1 ≤ 601024) (hk2 : k2 ≤ 7293034) (w :
    (vp_in (l4 + 1) (gN G)) ∧
    (vp_in (l4 + 2) (gN G)) ∧
    (h.1[l1]? = some (0, 10)) ∧
    ci G d m_X11_select [.ref l1, .int (gX G (l4 + 1 : Int32).toNatClampNeg), .int (gX G (l4 + 2 : Int32).toNatClampNeg)] h fun r1 h2 =>
    (vp_in (l4 + 1) (gN G)) ∧
    (vp_in (l4 + 2) (gN G)) ∧
    (h2.1[l2]? = some (0, 11)) ∧
    ci G d m_X12_select [.ref l2, .int (gX G (l4 + 1 : Int32).toNatClampNeg), .int (gX G (l4 + 2 : Int32).toNatClampNeg)] h2 fun r3 h4 =>
    if r1 = r3 then (
      Wp G ((yL_law, cL_law, 7, (Option.some Jvm.ClassFile.FieldType.boolean)), d + 1, 601024, 7293034, post) (k1, k2) 23 [.ref 1200, .ref l1, .ref l2, .ref l3, .int (l4 + 7), .null, .null] [] h4
    ) else (
      (k1 ≤ 601024) ∧
      (k2 ≤ 7293034) ∧
      post (some (.int 0)) h4
    )) :
    Wp G ((yL_law, cL_law, 7, (Option.some Jvm.ClassFile.FieldType.boolean)), d + 1, 601024, 7293034, post) (k1, k2) 951 [.ref 1200, .ref l1, .ref l2, .ref l3, .int l4, .null, .null] [] h := by
  refine w_aload_n dL_law_951 rfl ?_
  refine w_aload_n dL_law_952 rfl ?_
  refine w_iload dL_law_953 rfl ?_
  refine w_iconst (v := 1) dL_law_955 rfl ?_
  refine w_iadd dL_law_956 ?_
  obtain ⟨e1, w⟩ := w
  refine w_sald dL_law_957 e1 ?_
  refine w_aload_n dL_law_958 rfl ?_
  refine w_iload dL_law_959 rfl ?_
  refine w_iconst (v := 2) dL_law_961 rfl ?_
  refine w_iadd dL_law_962 ?_
  obtain ⟨e2, w⟩ := w
  refine w_sald dL_law_963 e2 ?_
  obtain ⟨e3, w⟩ := w
  refine w_callV (As := [.int (gX G (l4 + 1 : Int32).toNatClampNeg), .int (gX G (l4 + 2 : Int32).toNatClampNeg)]) (st := []) dL_law_964 mt_X11_select g_1086 g_1087 g_1088 rfl e3 rfl rfl (Nat.le_of_ble_eq_true rfl) (Nat.le_refl _) ⟨hk1, hk2⟩ w ?_
  rintro v h2 ⟨r1, rfl, w⟩
  refine w_aload_n dL_law_967 rfl ?_
  refine w_aload_n dL_law_968 rfl ?_
  refine w_iload dL_law_969 rfl ?_
  refine w_iconst (v := 1) dL_law_971 rfl ?_
  refine w_iadd dL_law_972 ?_
  obtain ⟨e1, w⟩ := w
  refine w_sald dL_law_973 e1 ?_
  refine w_aload_n dL_law_974 rfl ?_
  refine w_iload dL_law_975 rfl ?_
  refine w_iconst (v := 2) dL_law_977 rfl ?_
  refine w_iadd dL_law_978 ?_
  obtain ⟨e2, w⟩ := w
  refine w_sald dL_law_979 e2 ?_
  obtain ⟨e3, w⟩ := w
  refine w_callV (As := [.int (gX G (l4 + 1 : Int32).toNatClampNeg), .int (gX G (l4 + 2 : Int32).toNatClampNeg)]) (st := [.int r1]) dL_law_980 mt_X12_select g_1846 g_1847 g_1848 rfl e3 rfl rfl (Nat.le_of_ble_eq_true rfl) (Nat.le_refl _) ⟨hk1, hk2⟩ w ?_
  rintro v h4 ⟨r3, rfl, w⟩
  refine w_ic_eq (tgt := 1455) dL_law_983 rfl (fun c => ?_) (fun c => ?_)
  · rw [if_pos c] at w
    refine v_iinc (l' := [.ref 1200, .ref l1, .ref l2, .ref l3, .int (l4 + 7), .null, .null]) (v := l4 + 7) dL_law_1455 rfl rfl (Nat.le_of_ble_eq_true rfl) rfl ?_
    refine w_goto (tgt := 23) dL_law_1458 rfl ?_
    exact w
  · rw [if_neg c] at w
    refine w_iconst (v := 0) dL_law_986 rfl ?_
    obtain ⟨e1, w⟩ := w
    obtain ⟨e2, w⟩ := w
    exact w_ireturn dL_law_987 rfl rfl ⟨e1, e2⟩ w
set_option maxRecDepth 20000 in
set_option maxHeartbeats 4000000 in
theorem x_L_law_988 {G : pm_G} {d : Nat} {post : pm_PT} {h : pm_H} {k1 k2 : Nat} {l1 : Nat} {l2 : Nat} {l3 : Nat} {l4 : Int32} (hk1 : k1 ≤ 601024) (hk2 : k2 ≤ 7293034) (w :
    (vp_in (l4 + 1) (gN G)) ∧
    (vp_in (l4 + 2) (gN G)) ∧
    (h.1[l1]? = some (0, 10)) ∧
    ci G d m_X11_split [.ref l1, .int (gX G (l4 + 1 : Int32).toNatClampNeg), .int (gX G (l4 + 2 : Int32).toNatClampNeg)] h fun r1 h2 =>
    (vp_in (l4 + 1) (gN G)) ∧
    (vp_in (l4 + 2) (gN G)) ∧
    (h2.1[l2]? = some (0, 11)) ∧
    ci G d m_X12_split [.ref l2, .int (gX G (l4 + 1 : Int32).toNatClampNeg), .int (gX G (l4 + 2 : Int32).toNatClampNeg)] h2 fun r3 h4 =>
    if r1 = r3 then (
      Wp G ((yL_law, cL_law, 7, (Option.some Jvm.ClassFile.FieldType.boolean)), d + 1, 601024, 7293034, post) (k1, k2) 23 [.ref 1200, .ref l1, .ref l2, .ref l3, .int (l4 + 7), .null, .null] [] h4
    ) else (
      (k1 ≤ 601024) ∧
      (k2 ≤ 7293034) ∧
      post (some (.int 0)) h4
    )) :
    Wp G ((yL_law, cL_law, 7, (Option.some Jvm.ClassFile.FieldType.boolean)), d + 1, 601024, 7293034, post) (k1, k2) 988 [.ref 1200, .ref l1, .ref l2, .ref l3, .int l4, .null, .null] [] h := by
  refine w_aload_n dL_law_988 rfl ?_
  refine w_aload_n dL_law_989 rfl ?_
  refine w_iload dL_law_990 rfl ?_
  refine w_iconst (v := 1) dL_law_992 rfl ?_
  refine w_iadd dL_law_993 ?_
  obtain ⟨e1, w⟩ := w
  refine w_sald dL_law_994 e1 ?_
  refine w_aload_n dL_law_995 rfl ?_
  refine w_iload dL_law_996 rfl ?_
  refine w_iconst (v := 2) dL_law_998 rfl ?_
  refine w_iadd dL_law_999 ?_
  obtain ⟨e2, w⟩ := w
  refine w_sald dL_law_1000 e2 ?_
  obtain ⟨e3, w⟩ := w
  refine w_callV (As := [.int (gX G (l4 + 1 : Int32).toNatClampNeg), .int (gX G (l4 + 2 : Int32).toNatClampNeg)]) (st := []) dL_law_1001 mt_X11_split g_1099 g_1100 g_1101 rfl e3 rfl rfl (Nat.le_of_ble_eq_true rfl) (Nat.le_refl _) ⟨hk1, hk2⟩ w ?_
  rintro v h2 ⟨r1, rfl, w⟩
  refine w_aload_n dL_law_1004 rfl ?_
  refine w_aload_n dL_law_1005 rfl ?_
  refine w_iload dL_law_1006 rfl ?_
  refine w_iconst (v := 1) dL_law_1008 rfl ?_
  refine w_iadd dL_law_1009 ?_
  obtain ⟨e1, w⟩ := w
  refine w_sald dL_law_1010 e1 ?_
  refine w_aload_n dL_law_1011 rfl ?_
  refine w_iload dL_law_1012 rfl ?_
  refine w_iconst (v := 2) dL_law_1014 rfl ?_
  refine w_iadd dL_law_1015 ?_
  obtain ⟨e2, w⟩ := w
  refine w_sald dL_law_1016 e2 ?_
  obtain ⟨e3, w⟩ := w
  refine w_callV (As := [.int (gX G (l4 + 1 : Int32).toNatClampNeg), .int (gX G (l4 + 2 : Int32).toNatClampNeg)]) (st := [.int r1]) dL_law_1017 mt_X12_split g_1854 g_1855 g_1856 rfl e3 rfl rfl (Nat.le_of_ble_eq_true rfl) (Nat.le_refl _) ⟨hk1, hk2⟩ w ?_
  rintro v h4 ⟨r3, rfl, w⟩
  refine w_ic_eq (tgt := 1455) dL_law_1020 rfl (fun c => ?_) (fun c => ?_)
  · rw [if_pos c] at w
    refine v_iinc (l' := [.ref 1200, .ref l1, .ref l2, .ref l3, .int (l4 + 7), .null, .null]) (v := l4 + 7) dL_law_1455 rfl rfl (Nat.le_of_ble_eq_true rfl) rfl ?_
    refine w_goto (tgt := 23) dL_law_1458 rfl ?_
    exact w
  · rw [if_neg c] at w
    refine w_iconst (v := 0) dL_law_1023 rfl ?_
    obtain ⟨e1, w⟩ := w
    obtain ⟨e2, w⟩ := w
    exact w_ireturn dL_law_1024 rfl rfl ⟨e1, e2⟩ w
set_option maxRecDepth 20000 in
set_option maxHeartbeats 4000000 in
theorem x_L_law_1025 {G : pm_G} {d : Nat} {post : pm_PT} {h : pm_H} {k1 k2 : Nat} {l1 : Nat} {l2 : Nat} {l3 : Nat} {l4 : Int32} (hk1 : k1 ≤ 601024) (hk2 : k2 ≤ 7293034) (w :
    (vp_in (l4 + 1) (gN G)) ∧
    (vp_in (l4 + 2) (gN G)) ∧
    (h.1[l1]? = some (0, 10)) ∧
    ci G d m_X11_steps [.ref l1, .int (gX G (l4 + 1 : Int32).toNatClampNeg), .int (gX G (l4 + 2 : Int32).toNatClampNeg)] h fun r1 h2 =>
    (vp_in (l4 + 1) (gN G)) ∧
    (vp_in (l4 + 2) (gN G)) ∧
    (h2.1[l2]? = some (0, 11)) ∧
    ci G d m_X12_steps [.ref l2, .int (gX G (l4 + 1 : Int32).toNatClampNeg), .int (gX G (l4 + 2 : Int32).toNatClampNeg)] h2 fun r3 h4 =>
    if r1 = r3 then (
      Wp G ((yL_law, cL_law, 7, (Option.some Jvm.ClassFile.FieldType.boolean)), d + 1, 601024, 7293034, post) (k1, k2) 23 [.ref 1200, .ref l1, .ref l2, .ref l3, .int (l4 + 7), .null, .null] [] h4
    ) else (
      (k1 ≤ 601024) ∧
      (k2 ≤ 7293034) ∧
      post (some (.int 0)) h4
    )) :
    Wp G ((yL_law, cL_law, 7, (Option.some Jvm.ClassFile.FieldType.boolean)), d + 1, 601024, 7293034, post) (k1, k2) 1025 [.ref 1200, .ref l1, .ref l2, .ref l3, .int l4, .null, .null] [] h := by
  refine w_aload_n dL_law_1025 rfl ?_
  refine w_aload_n dL_law_1026 rfl ?_
  refine w_iload dL_law_1027 rfl ?_
  refine w_iconst (v := 1) dL_law_1029 rfl ?_
  refine w_iadd dL_law_1030 ?_
  obtain ⟨e1, w⟩ := w
  refine w_sald dL_law_1031 e1 ?_
  refine w_aload_n dL_law_1032 rfl ?_
  refine w_iload dL_law_1033 rfl ?_
  refine w_iconst (v := 2) dL_law_1035 rfl ?_
  refine w_iadd dL_law_1036 ?_
  obtain ⟨e2, w⟩ := w
  refine w_sald dL_law_1037 e2 ?_
  obtain ⟨e3, w⟩ := w
  refine w_callV (As := [.int (gX G (l4 + 1 : Int32).toNatClampNeg), .int (gX G (l4 + 2 : Int32).toNatClampNeg)]) (st := []) dL_law_1038 mt_X11_steps g_1113 g_1114 g_1115 rfl e3 rfl rfl (Nat.le_of_ble_eq_true rfl) (Nat.le_refl _) ⟨hk1, hk2⟩ w ?_
  rintro v h2 ⟨r1, rfl, w⟩
  refine w_aload_n dL_law_1041 rfl ?_
  refine w_aload_n dL_law_1042 rfl ?_
  refine w_iload dL_law_1043 rfl ?_
  refine w_iconst (v := 1) dL_law_1045 rfl ?_
  refine w_iadd dL_law_1046 ?_
  obtain ⟨e1, w⟩ := w
  refine w_sald dL_law_1047 e1 ?_
  refine w_aload_n dL_law_1048 rfl ?_
  refine w_iload dL_law_1049 rfl ?_
  refine w_iconst (v := 2) dL_law_1051 rfl ?_
  refine w_iadd dL_law_1052 ?_
  obtain ⟨e2, w⟩ := w
  refine w_sald dL_law_1053 e2 ?_
  obtain ⟨e3, w⟩ := w
  refine w_callV (As := [.int (gX G (l4 + 1 : Int32).toNatClampNeg), .int (gX G (l4 + 2 : Int32).toNatClampNeg)]) (st := [.int r1]) dL_law_1054 mt_X12_steps g_1862 g_1863 g_1864 rfl e3 rfl rfl (Nat.le_of_ble_eq_true rfl) (Nat.le_refl _) ⟨hk1, hk2⟩ w ?_
  rintro v h4 ⟨r3, rfl, w⟩
  refine w_ic_eq (tgt := 1455) dL_law_1057 rfl (fun c => ?_) (fun c => ?_)
  · rw [if_pos c] at w
    refine v_iinc (l' := [.ref 1200, .ref l1, .ref l2, .ref l3, .int (l4 + 7), .null, .null]) (v := l4 + 7) dL_law_1455 rfl rfl (Nat.le_of_ble_eq_true rfl) rfl ?_
    refine w_goto (tgt := 23) dL_law_1458 rfl ?_
    exact w
  · rw [if_neg c] at w
    refine w_iconst (v := 0) dL_law_1060 rfl ?_
    obtain ⟨e1, w⟩ := w
    obtain ⟨e2, w⟩ := w
    exact w_ireturn dL_law_1061 rfl rfl ⟨e1, e2⟩ w
set_option maxRecDepth 20000 in
set_option maxHeartbeats 4000000 in
theorem x_L_law_1062 {G : pm_G} {d : Nat} {post : pm_PT} {h : pm_H} {k1 k2 : Nat} {l1 : Nat} {l2 : Nat} {l3 : Nat} {l4 : Int32} (hk1 : k1 ≤ 601024) (hk2 : k2 ≤ 7293034) (w :
    (vp_in (l4 + 1) (gN G)) ∧
    (h.1[l1]? = some (0, 10)) ∧
    ci G d m_X11_worth [.ref l1, .int (gX G (l4 + 1 : Int32).toNatClampNeg)] h fun r1 h2 =>
    (vp_in (l4 + 1) (gN G)) ∧
    (h2.1[l2]? = some (0, 11)) ∧
    ci G d m_X12_worth [.ref l2, .int (gX G (l4 + 1 : Int32).toNatClampNeg)] h2 fun r3 h4 =>
    if r1 = r3 then (
      Wp G ((yL_law, cL_law, 7, (Option.some Jvm.ClassFile.FieldType.boolean)), d + 1, 601024, 7293034, post) (k1, k2) 23 [.ref 1200, .ref l1, .ref l2, .ref l3, .int (l4 + 7), .null, .null] [] h4
    ) else (
      (k1 ≤ 601024) ∧
      (k2 ≤ 7293034) ∧
      post (some (.int 0)) h4
    )) :
    Wp G ((yL_law, cL_law, 7, (Option.some Jvm.ClassFile.FieldType.boolean)), d + 1, 601024, 7293034, post) (k1, k2) 1062 [.ref 1200, .ref l1, .ref l2, .ref l3, .int l4, .null, .null] [] h := by
  refine w_aload_n dL_law_1062 rfl ?_
  refine w_aload_n dL_law_1063 rfl ?_
  refine w_iload dL_law_1064 rfl ?_
  refine w_iconst (v := 1) dL_law_1066 rfl ?_
  refine w_iadd dL_law_1067 ?_
  obtain ⟨e1, w⟩ := w
  refine w_sald dL_law_1068 e1 ?_
  obtain ⟨e2, w⟩ := w
  refine w_callV (As := [.int (gX G (l4 + 1 : Int32).toNatClampNeg)]) (st := []) dL_law_1069 mt_X11_worth g_1131 g_1132 g_1133 rfl e2 rfl rfl (Nat.le_of_ble_eq_true rfl) (Nat.le_refl _) ⟨hk1, hk2⟩ w ?_
  rintro v h2 ⟨r1, rfl, w⟩
  refine w_aload_n dL_law_1072 rfl ?_
  refine w_aload_n dL_law_1073 rfl ?_
  refine w_iload dL_law_1074 rfl ?_
  refine w_iconst (v := 1) dL_law_1076 rfl ?_
  refine w_iadd dL_law_1077 ?_
  obtain ⟨e1, w⟩ := w
  refine w_sald dL_law_1078 e1 ?_
  obtain ⟨e2, w⟩ := w
  refine w_callV (As := [.int (gX G (l4 + 1 : Int32).toNatClampNeg)]) (st := [.int r1]) dL_law_1079 mt_X12_worth g_1870 g_1871 g_1872 rfl e2 rfl rfl (Nat.le_of_ble_eq_true rfl) (Nat.le_refl _) ⟨hk1, hk2⟩ w ?_
  rintro v h4 ⟨r3, rfl, w⟩
  refine w_ic_eq (tgt := 1455) dL_law_1082 rfl (fun c => ?_) (fun c => ?_)
  · rw [if_pos c] at w
    refine v_iinc (l' := [.ref 1200, .ref l1, .ref l2, .ref l3, .int (l4 + 7), .null, .null]) (v := l4 + 7) dL_law_1455 rfl rfl (Nat.le_of_ble_eq_true rfl) rfl ?_
    refine w_goto (tgt := 23) dL_law_1458 rfl ?_
    exact w
  · rw [if_neg c] at w
    refine w_iconst (v := 0) dL_law_1085 rfl ?_
    obtain ⟨e1, w⟩ := w
    obtain ⟨e2, w⟩ := w
    exact w_ireturn dL_law_1086 rfl rfl ⟨e1, e2⟩ w
set_option maxRecDepth 20000 in
set_option maxHeartbeats 4000000 in
theorem x_L_law_1087 {G : pm_G} {d : Nat} {post : pm_PT} {h : pm_H} {k1 k2 : Nat} {l1 : Nat} {l2 : Nat} {l3 : Nat} {l4 : Int32} (hk1 : k1 ≤ 601024) (hk2 : k2 ≤ 7293034) (w :
    (vp_in (l4 + 1) (gN G)) ∧
    (h.1[l1]? = some (0, 10)) ∧
    ci G d m_X11_mean [.ref l1, .int (gX G (l4 + 1 : Int32).toNatClampNeg)] h fun r1 h2 =>
    (vp_in (l4 + 1) (gN G)) ∧
    (h2.1[l2]? = some (0, 11)) ∧
    ci G d m_X12_mean [.ref l2, .int (gX G (l4 + 1 : Int32).toNatClampNeg)] h2 fun r3 h4 =>
    if r1 = r3 then (
      Wp G ((yL_law, cL_law, 7, (Option.some Jvm.ClassFile.FieldType.boolean)), d + 1, 601024, 7293034, post) (k1, k2) 23 [.ref 1200, .ref l1, .ref l2, .ref l3, .int (l4 + 7), .null, .null] [] h4
    ) else (
      (k1 ≤ 601024) ∧
      (k2 ≤ 7293034) ∧
      post (some (.int 0)) h4
    )) :
    Wp G ((yL_law, cL_law, 7, (Option.some Jvm.ClassFile.FieldType.boolean)), d + 1, 601024, 7293034, post) (k1, k2) 1087 [.ref 1200, .ref l1, .ref l2, .ref l3, .int l4, .null, .null] [] h := by
  refine w_aload_n dL_law_1087 rfl ?_
  refine w_aload_n dL_law_1088 rfl ?_
  refine w_iload dL_law_1089 rfl ?_
  refine w_iconst (v := 1) dL_law_1091 rfl ?_
  refine w_iadd dL_law_1092 ?_
  obtain ⟨e1, w⟩ := w
  refine w_sald dL_law_1093 e1 ?_
  obtain ⟨e2, w⟩ := w
  refine w_callV (As := [.int (gX G (l4 + 1 : Int32).toNatClampNeg)]) (st := []) dL_law_1094 mt_X11_mean g_1139 g_1140 g_1141 rfl e2 rfl rfl (Nat.le_of_ble_eq_true rfl) (Nat.le_refl _) ⟨hk1, hk2⟩ w ?_
  rintro v h2 ⟨r1, rfl, w⟩
  refine w_aload_n dL_law_1097 rfl ?_
  refine w_aload_n dL_law_1098 rfl ?_
  refine w_iload dL_law_1099 rfl ?_
  refine w_iconst (v := 1) dL_law_1101 rfl ?_
  refine w_iadd dL_law_1102 ?_
  obtain ⟨e1, w⟩ := w
  refine w_sald dL_law_1103 e1 ?_
  obtain ⟨e2, w⟩ := w
  refine w_callV (As := [.int (gX G (l4 + 1 : Int32).toNatClampNeg)]) (st := [.int r1]) dL_law_1104 mt_X12_mean g_1878 g_1879 g_1880 rfl e2 rfl rfl (Nat.le_of_ble_eq_true rfl) (Nat.le_refl _) ⟨hk1, hk2⟩ w ?_
  rintro v h4 ⟨r3, rfl, w⟩
  refine w_ic_eq (tgt := 1455) dL_law_1107 rfl (fun c => ?_) (fun c => ?_)
  · rw [if_pos c] at w
    refine v_iinc (l' := [.ref 1200, .ref l1, .ref l2, .ref l3, .int (l4 + 7), .null, .null]) (v := l4 + 7) dL_law_1455 rfl rfl (Nat.le_of_ble_eq_true rfl) rfl ?_
    refine w_goto (tgt := 23) dL_law_1458 rfl ?_
    exact w
  · rw [if_neg c] at w
    refine w_iconst (v := 0) dL_law_1110 rfl ?_
    obtain ⟨e1, w⟩ := w
    obtain ⟨e2, w⟩ := w
    exact w_ireturn dL_law_1111 rfl rfl ⟨e1, e2⟩ w
set_option maxRecDepth 20000 in
set_option maxHeartbeats 4000000 in
theorem x_L_law_1112 {G : pm_G} {d : Nat} {post : pm_PT} {h : pm_H} {k1 k2 : Nat} {l1 : Nat} {l2 : Nat} {l3 : Nat} {l4 : Int32} (hk1 : k1 ≤ 601024) (hk2 : k2 ≤ 7293034) (w :
    (vp_in (l4 + 1) (gN G)) ∧
    (h.1[l1]? = some (0, 10)) ∧
    ci G d m_X11_bits [.ref l1, .int (gX G (l4 + 1 : Int32).toNatClampNeg)] h fun r1 h2 =>
    (vp_in (l4 + 1) (gN G)) ∧
    (h2.1[l2]? = some (0, 11)) ∧
    ci G d m_X12_bits [.ref l2, .int (gX G (l4 + 1 : Int32).toNatClampNeg)] h2 fun r3 h4 =>
    if r1 = r3 then (
      Wp G ((yL_law, cL_law, 7, (Option.some Jvm.ClassFile.FieldType.boolean)), d + 1, 601024, 7293034, post) (k1, k2) 23 [.ref 1200, .ref l1, .ref l2, .ref l3, .int (l4 + 7), .null, .null] [] h4
    ) else (
      (k1 ≤ 601024) ∧
      (k2 ≤ 7293034) ∧
      post (some (.int 0)) h4
    )) :
    Wp G ((yL_law, cL_law, 7, (Option.some Jvm.ClassFile.FieldType.boolean)), d + 1, 601024, 7293034, post) (k1, k2) 1112 [.ref 1200, .ref l1, .ref l2, .ref l3, .int l4, .null, .null] [] h := by
  refine w_aload_n dL_law_1112 rfl ?_
  refine w_aload_n dL_law_1113 rfl ?_
  refine w_iload dL_law_1114 rfl ?_
  refine w_iconst (v := 1) dL_law_1116 rfl ?_
  refine w_iadd dL_law_1117 ?_
  obtain ⟨e1, w⟩ := w
  refine w_sald dL_law_1118 e1 ?_
  obtain ⟨e2, w⟩ := w
  refine w_callV (As := [.int (gX G (l4 + 1 : Int32).toNatClampNeg)]) (st := []) dL_law_1119 mt_X11_bits g_1143 g_1144 g_1145 rfl e2 rfl rfl (Nat.le_of_ble_eq_true rfl) (Nat.le_refl _) ⟨hk1, hk2⟩ w ?_
  rintro v h2 ⟨r1, rfl, w⟩
  refine w_aload_n dL_law_1122 rfl ?_
  refine w_aload_n dL_law_1123 rfl ?_
  refine w_iload dL_law_1124 rfl ?_
  refine w_iconst (v := 1) dL_law_1126 rfl ?_
  refine w_iadd dL_law_1127 ?_
  obtain ⟨e1, w⟩ := w
  refine w_sald dL_law_1128 e1 ?_
  obtain ⟨e2, w⟩ := w
  refine w_callV (As := [.int (gX G (l4 + 1 : Int32).toNatClampNeg)]) (st := [.int r1]) dL_law_1129 mt_X12_bits g_1882 g_1883 g_1884 rfl e2 rfl rfl (Nat.le_of_ble_eq_true rfl) (Nat.le_refl _) ⟨hk1, hk2⟩ w ?_
  rintro v h4 ⟨r3, rfl, w⟩
  refine w_ic_eq (tgt := 1455) dL_law_1132 rfl (fun c => ?_) (fun c => ?_)
  · rw [if_pos c] at w
    refine v_iinc (l' := [.ref 1200, .ref l1, .ref l2, .ref l3, .int (l4 + 7), .null, .null]) (v := l4 + 7) dL_law_1455 rfl rfl (Nat.le_of_ble_eq_true rfl) rfl ?_
    refine w_goto (tgt := 23) dL_law_1458 rfl ?_
    exact w
  · rw [if_neg c] at w
    refine w_iconst (v := 0) dL_law_1135 rfl ?_
    obtain ⟨e1, w⟩ := w
    obtain ⟨e2, w⟩ := w
    exact w_ireturn dL_law_1136 rfl rfl ⟨e1, e2⟩ w
set_option maxRecDepth 20000 in
set_option maxHeartbeats 4000000 in
theorem x_L_law_1137 {G : pm_G} {d : Nat} {post : pm_PT} {h : pm_H} {k1 k2 : Nat} {l1 : Nat} {l2 : Nat} {l3 : Nat} {l4 : Int32} (hk1 : k1 ≤ 601024) (hk2 : k2 ≤ 7293034) (w :
    (vp_in (l4 + 1) (gN G)) ∧
    (h.1[l1]? = some (0, 10)) ∧
    ci G d m_X11_thousand [.ref l1, .int (gX G (l4 + 1 : Int32).toNatClampNeg)] h fun r1 h2 =>
    (vp_in (l4 + 1) (gN G)) ∧
    (h2.1[l2]? = some (0, 11)) ∧
    ci G d m_X12_thousand [.ref l2, .int (gX G (l4 + 1 : Int32).toNatClampNeg)] h2 fun r3 h4 =>
    if r1 = r3 then (
      Wp G ((yL_law, cL_law, 7, (Option.some Jvm.ClassFile.FieldType.boolean)), d + 1, 601024, 7293034, post) (k1, k2) 23 [.ref 1200, .ref l1, .ref l2, .ref l3, .int (l4 + 7), .null, .null] [] h4
    ) else (
      (k1 ≤ 601024) ∧
      (k2 ≤ 7293034) ∧
      post (some (.int 0)) h4
    )) :
    Wp G ((yL_law, cL_law, 7, (Option.some Jvm.ClassFile.FieldType.boolean)), d + 1, 601024, 7293034, post) (k1, k2) 1137 [.ref 1200, .ref l1, .ref l2, .ref l3, .int l4, .null, .null] [] h := by
  refine w_aload_n dL_law_1137 rfl ?_
  refine w_aload_n dL_law_1138 rfl ?_
  refine w_iload dL_law_1139 rfl ?_
  refine w_iconst (v := 1) dL_law_1141 rfl ?_
  refine w_iadd dL_law_1142 ?_
  obtain ⟨e1, w⟩ := w
  refine w_sald dL_law_1143 e1 ?_
  obtain ⟨e2, w⟩ := w
  refine w_callV (As := [.int (gX G (l4 + 1 : Int32).toNatClampNeg)]) (st := []) dL_law_1144 mt_X11_thousand g_1147 g_1148 g_1149 rfl e2 rfl rfl (Nat.le_of_ble_eq_true rfl) (Nat.le_refl _) ⟨hk1, hk2⟩ w ?_
  rintro v h2 ⟨r1, rfl, w⟩
  refine w_aload_n dL_law_1147 rfl ?_
  refine w_aload_n dL_law_1148 rfl ?_
  refine w_iload dL_law_1149 rfl ?_
  refine w_iconst (v := 1) dL_law_1151 rfl ?_
  refine w_iadd dL_law_1152 ?_
  obtain ⟨e1, w⟩ := w
  refine w_sald dL_law_1153 e1 ?_
  obtain ⟨e2, w⟩ := w
  refine w_callV (As := [.int (gX G (l4 + 1 : Int32).toNatClampNeg)]) (st := [.int r1]) dL_law_1154 mt_X12_thousand g_1886 g_1887 g_1888 rfl e2 rfl rfl (Nat.le_of_ble_eq_true rfl) (Nat.le_refl _) ⟨hk1, hk2⟩ w ?_
  rintro v h4 ⟨r3, rfl, w⟩
  refine w_ic_eq (tgt := 1455) dL_law_1157 rfl (fun c => ?_) (fun c => ?_)
  · rw [if_pos c] at w
    refine v_iinc (l' := [.ref 1200, .ref l1, .ref l2, .ref l3, .int (l4 + 7), .null, .null]) (v := l4 + 7) dL_law_1455 rfl rfl (Nat.le_of_ble_eq_true rfl) rfl ?_
    refine w_goto (tgt := 23) dL_law_1458 rfl ?_
    exact w
  · rw [if_neg c] at w
    refine w_iconst (v := 0) dL_law_1160 rfl ?_
    obtain ⟨e1, w⟩ := w
    obtain ⟨e2, w⟩ := w
    exact w_ireturn dL_law_1161 rfl rfl ⟨e1, e2⟩ w
set_option maxRecDepth 20000 in
set_option maxHeartbeats 4000000 in
theorem x_L_law_1162 {G : pm_G} {d : Nat} {post : pm_PT} {h : pm_H} {k1 k2 : Nat} {l1 : Nat} {l2 : Nat} {l3 : Nat} {l4 : Int32} (hk1 : k1 ≤ 601024) (hk2 : k2 ≤ 7293034) (w :
    (vp_in (l4 + 1) (gN G)) ∧
    (h.1[l1]? = some (0, 10)) ∧
    ci G d m_X11_lift [.ref l1, .int (gX G (l4 + 1 : Int32).toNatClampNeg)] h fun r1 h2 =>
    (vp_in (l4 + 1) (gN G)) ∧
    (h2.1[l2]? = some (0, 11)) ∧
    ci G d m_X12_lift [.ref l2, .int (gX G (l4 + 1 : Int32).toNatClampNeg)] h2 fun r3 h4 =>
    if r1 = r3 then (
      Wp G ((yL_law, cL_law, 7, (Option.some Jvm.ClassFile.FieldType.boolean)), d + 1, 601024, 7293034, post) (k1, k2) 23 [.ref 1200, .ref l1, .ref l2, .ref l3, .int (l4 + 7), .null, .null] [] h4
    ) else (
      (k1 ≤ 601024) ∧
      (k2 ≤ 7293034) ∧
      post (some (.int 0)) h4
    )) :
    Wp G ((yL_law, cL_law, 7, (Option.some Jvm.ClassFile.FieldType.boolean)), d + 1, 601024, 7293034, post) (k1, k2) 1162 [.ref 1200, .ref l1, .ref l2, .ref l3, .int l4, .null, .null] [] h := by
  refine w_aload_n dL_law_1162 rfl ?_
  refine w_aload_n dL_law_1163 rfl ?_
  refine w_iload dL_law_1164 rfl ?_
  refine w_iconst (v := 1) dL_law_1166 rfl ?_
  refine w_iadd dL_law_1167 ?_
  obtain ⟨e1, w⟩ := w
  refine w_sald dL_law_1168 e1 ?_
  obtain ⟨e2, w⟩ := w
  refine w_callV (As := [.int (gX G (l4 + 1 : Int32).toNatClampNeg)]) (st := []) dL_law_1169 mt_X11_lift g_1152 g_1153 g_1154 rfl e2 rfl rfl (Nat.le_of_ble_eq_true rfl) (Nat.le_refl _) ⟨hk1, hk2⟩ w ?_
  rintro v h2 ⟨r1, rfl, w⟩
  refine w_aload_n dL_law_1172 rfl ?_
  refine w_aload_n dL_law_1173 rfl ?_
  refine w_iload dL_law_1174 rfl ?_
  refine w_iconst (v := 1) dL_law_1176 rfl ?_
  refine w_iadd dL_law_1177 ?_
  obtain ⟨e1, w⟩ := w
  refine w_sald dL_law_1178 e1 ?_
  obtain ⟨e2, w⟩ := w
  refine w_callV (As := [.int (gX G (l4 + 1 : Int32).toNatClampNeg)]) (st := [.int r1]) dL_law_1179 mt_X12_lift g_1893 g_1894 g_1895 rfl e2 rfl rfl (Nat.le_of_ble_eq_true rfl) (Nat.le_refl _) ⟨hk1, hk2⟩ w ?_
  rintro v h4 ⟨r3, rfl, w⟩
  refine w_ic_eq (tgt := 1455) dL_law_1182 rfl (fun c => ?_) (fun c => ?_)
  · rw [if_pos c] at w
    refine v_iinc (l' := [.ref 1200, .ref l1, .ref l2, .ref l3, .int (l4 + 7), .null, .null]) (v := l4 + 7) dL_law_1455 rfl rfl (Nat.le_of_ble_eq_true rfl) rfl ?_
    refine w_goto (tgt := 23) dL_law_1458 rfl ?_
    exact w
  · rw [if_neg c] at w
    refine w_iconst (v := 0) dL_law_1185 rfl ?_
    obtain ⟨e1, w⟩ := w
    obtain ⟨e2, w⟩ := w
    exact w_ireturn dL_law_1186 rfl rfl ⟨e1, e2⟩ w
set_option maxRecDepth 20000 in
set_option maxHeartbeats 4000000 in
theorem x_L_law_1187 {G : pm_G} {d : Nat} {post : pm_PT} {h : pm_H} {k1 k2 : Nat} {l1 : Nat} {l2 : Nat} {l3 : Nat} {l4 : Int32} (hk1 : k1 ≤ 601024) (hk2 : k2 ≤ 7293034) (w :
    (vp_in (l4 + 1) (gN G)) ∧
    (h.1[l1]? = some (0, 10)) ∧
    ci G d m_X11_bound [.ref l1, .int (gX G (l4 + 1 : Int32).toNatClampNeg)] h fun r1 h2 =>
    (vp_in (l4 + 1) (gN G)) ∧
    (h2.1[l2]? = some (0, 11)) ∧
    ci G d m_X12_bound [.ref l2, .int (gX G (l4 + 1 : Int32).toNatClampNeg)] h2 fun r3 h4 =>
    if r1 = r3 then (
      Wp G ((yL_law, cL_law, 7, (Option.some Jvm.ClassFile.FieldType.boolean)), d + 1, 601024, 7293034, post) (k1, k2) 23 [.ref 1200, .ref l1, .ref l2, .ref l3, .int (l4 + 7), .null, .null] [] h4
    ) else (
      (k1 ≤ 601024) ∧
      (k2 ≤ 7293034) ∧
      post (some (.int 0)) h4
    )) :
    Wp G ((yL_law, cL_law, 7, (Option.some Jvm.ClassFile.FieldType.boolean)), d + 1, 601024, 7293034, post) (k1, k2) 1187 [.ref 1200, .ref l1, .ref l2, .ref l3, .int l4, .null, .null] [] h := by
  refine w_aload_n dL_law_1187 rfl ?_
  refine w_aload_n dL_law_1188 rfl ?_
  refine w_iload dL_law_1189 rfl ?_
  refine w_iconst (v := 1) dL_law_1191 rfl ?_
  refine w_iadd dL_law_1192 ?_
  obtain ⟨e1, w⟩ := w
  refine w_sald dL_law_1193 e1 ?_
  obtain ⟨e2, w⟩ := w
  refine w_callV (As := [.int (gX G (l4 + 1 : Int32).toNatClampNeg)]) (st := []) dL_law_1194 mt_X11_bound g_1156 g_1157 g_1158 rfl e2 rfl rfl (Nat.le_of_ble_eq_true rfl) (Nat.le_refl _) ⟨hk1, hk2⟩ w ?_
  rintro v h2 ⟨r1, rfl, w⟩
  refine w_aload_n dL_law_1197 rfl ?_
  refine w_aload_n dL_law_1198 rfl ?_
  refine w_iload dL_law_1199 rfl ?_
  refine w_iconst (v := 1) dL_law_1201 rfl ?_
  refine w_iadd dL_law_1202 ?_
  obtain ⟨e1, w⟩ := w
  refine w_sald dL_law_1203 e1 ?_
  obtain ⟨e2, w⟩ := w
  refine w_callV (As := [.int (gX G (l4 + 1 : Int32).toNatClampNeg)]) (st := [.int r1]) dL_law_1204 mt_X12_bound g_1900 g_1901 g_1902 rfl e2 rfl rfl (Nat.le_of_ble_eq_true rfl) (Nat.le_refl _) ⟨hk1, hk2⟩ w ?_
  rintro v h4 ⟨r3, rfl, w⟩
  refine w_ic_eq (tgt := 1455) dL_law_1207 rfl (fun c => ?_) (fun c => ?_)
  · rw [if_pos c] at w
    refine v_iinc (l' := [.ref 1200, .ref l1, .ref l2, .ref l3, .int (l4 + 7), .null, .null]) (v := l4 + 7) dL_law_1455 rfl rfl (Nat.le_of_ble_eq_true rfl) rfl ?_
    refine w_goto (tgt := 23) dL_law_1458 rfl ?_
    exact w
  · rw [if_neg c] at w
    refine w_iconst (v := 0) dL_law_1210 rfl ?_
    obtain ⟨e1, w⟩ := w
    obtain ⟨e2, w⟩ := w
    exact w_ireturn dL_law_1211 rfl rfl ⟨e1, e2⟩ w
set_option maxRecDepth 20000 in
set_option maxHeartbeats 4000000 in
theorem x_L_law_1212 {G : pm_G} {d : Nat} {post : pm_PT} {h : pm_H} {k1 k2 : Nat} {l1 : Nat} {l2 : Nat} {l3 : Nat} {l4 : Int32} (hk1 : k1 ≤ 601024) (hk2 : k2 ≤ 7293034) (w :
    (vp_in (l4 + 1) (gN G)) ∧
    (h.1[l1]? = some (0, 10)) ∧
    ci G d m_X11_depth [.ref l1, .int (gX G (l4 + 1 : Int32).toNatClampNeg)] h fun r1 h2 =>
    (vp_in (l4 + 1) (gN G)) ∧
    (h2.1[l2]? = some (0, 11)) ∧
    ci G d m_X12_depth [.ref l2, .int (gX G (l4 + 1 : Int32).toNatClampNeg)] h2 fun r3 h4 =>
    if r1 = r3 then (
      Wp G ((yL_law, cL_law, 7, (Option.some Jvm.ClassFile.FieldType.boolean)), d + 1, 601024, 7293034, post) (k1, k2) 23 [.ref 1200, .ref l1, .ref l2, .ref l3, .int (l4 + 7), .null, .null] [] h4
    ) else (
      (k1 ≤ 601024) ∧
      (k2 ≤ 7293034) ∧
      post (some (.int 0)) h4
    )) :
    Wp G ((yL_law, cL_law, 7, (Option.some Jvm.ClassFile.FieldType.boolean)), d + 1, 601024, 7293034, post) (k1, k2) 1212 [.ref 1200, .ref l1, .ref l2, .ref l3, .int l4, .null, .null] [] h := by
  refine w_aload_n dL_law_1212 rfl ?_
  refine w_aload_n dL_law_1213 rfl ?_
  refine w_iload dL_law_1214 rfl ?_
  refine w_iconst (v := 1) dL_law_1216 rfl ?_
  refine w_iadd dL_law_1217 ?_
  obtain ⟨e1, w⟩ := w
  refine w_sald dL_law_1218 e1 ?_
  obtain ⟨e2, w⟩ := w
  refine w_callV (As := [.int (gX G (l4 + 1 : Int32).toNatClampNeg)]) (st := []) dL_law_1219 mt_X11_depth g_1160 g_1161 g_1162 rfl e2 rfl rfl (Nat.le_of_ble_eq_true rfl) (Nat.le_refl _) ⟨hk1, hk2⟩ w ?_
  rintro v h2 ⟨r1, rfl, w⟩
  refine w_aload_n dL_law_1222 rfl ?_
  refine w_aload_n dL_law_1223 rfl ?_
  refine w_iload dL_law_1224 rfl ?_
  refine w_iconst (v := 1) dL_law_1226 rfl ?_
  refine w_iadd dL_law_1227 ?_
  obtain ⟨e1, w⟩ := w
  refine w_sald dL_law_1228 e1 ?_
  obtain ⟨e2, w⟩ := w
  refine w_callV (As := [.int (gX G (l4 + 1 : Int32).toNatClampNeg)]) (st := [.int r1]) dL_law_1229 mt_X12_depth g_1904 g_1905 g_1906 rfl e2 rfl rfl (Nat.le_of_ble_eq_true rfl) (Nat.le_refl _) ⟨hk1, hk2⟩ w ?_
  rintro v h4 ⟨r3, rfl, w⟩
  refine w_ic_eq (tgt := 1455) dL_law_1232 rfl (fun c => ?_) (fun c => ?_)
  · rw [if_pos c] at w
    refine v_iinc (l' := [.ref 1200, .ref l1, .ref l2, .ref l3, .int (l4 + 7), .null, .null]) (v := l4 + 7) dL_law_1455 rfl rfl (Nat.le_of_ble_eq_true rfl) rfl ?_
    refine w_goto (tgt := 23) dL_law_1458 rfl ?_
    exact w
  · rw [if_neg c] at w
    refine w_iconst (v := 0) dL_law_1235 rfl ?_
    obtain ⟨e1, w⟩ := w
    obtain ⟨e2, w⟩ := w
    exact w_ireturn dL_law_1236 rfl rfl ⟨e1, e2⟩ w
set_option maxRecDepth 20000 in
set_option maxHeartbeats 4000000 in
theorem x_L_law_1237 {G : pm_G} {d : Nat} {post : pm_PT} {h : pm_H} {k1 k2 : Nat} {l1 : Nat} {l2 : Nat} {l3 : Nat} {l4 : Int32} (hk1 : k1 ≤ 601024) (hk2 : k2 ≤ 7293034) (w :
    (vp_in (l4 + 1) (gN G)) ∧
    (vp_in (l4 + 2) (gN G)) ∧
    (vp_in (l4 + 3) (gN G)) ∧
    if (gX G (l4 + 3 : Int32).toNatClampNeg) = 0 then (
      (h.1[l1]? = some (0, 10)) ∧
      ci G d m_X11_see [.ref l1, .int (gX G (l4 + 1 : Int32).toNatClampNeg), .int (gX G (l4 + 2 : Int32).toNatClampNeg), .int 0] h fun r1 h2 =>
      (vp_in (l4 + 1) (gN G)) ∧
      (vp_in (l4 + 2) (gN G)) ∧
      (vp_in (l4 + 3) (gN G)) ∧
      if (gX G (l4 + 3 : Int32).toNatClampNeg) = 0 then (
        (h2.1[l2]? = some (0, 11)) ∧
        ci G d m_X12_see [.ref l2, .int (gX G (l4 + 1 : Int32).toNatClampNeg), .int (gX G (l4 + 2 : Int32).toNatClampNeg), .int 0] h2 fun r3 h4 =>
        if r1 = r3 then (
          Wp G ((yL_law, cL_law, 7, (Option.some Jvm.ClassFile.FieldType.boolean)), d + 1, 601024, 7293034, post) (k1, k2) 23 [.ref 1200, .ref l1, .ref l2, .ref l3, .int (l4 + 7), .null, .null] [] h4
        ) else (
          (k1 ≤ 601024) ∧
          (k2 ≤ 7293034) ∧
          post (some (.int 0)) h4
        )
      ) else (
        (h2.1[l2]? = some (0, 11)) ∧
        ci G d m_X12_see [.ref l2, .int (gX G (l4 + 1 : Int32).toNatClampNeg), .int (gX G (l4 + 2 : Int32).toNatClampNeg), .int 1] h2 fun r5 h6 =>
        if r1 = r5 then (
          Wp G ((yL_law, cL_law, 7, (Option.some Jvm.ClassFile.FieldType.boolean)), d + 1, 601024, 7293034, post) (k1, k2) 23 [.ref 1200, .ref l1, .ref l2, .ref l3, .int (l4 + 7), .null, .null] [] h6
        ) else (
          (k1 ≤ 601024) ∧
          (k2 ≤ 7293034) ∧
          post (some (.int 0)) h6
        )
      )
    ) else (
      (h.1[l1]? = some (0, 10)) ∧
      ci G d m_X11_see [.ref l1, .int (gX G (l4 + 1 : Int32).toNatClampNeg), .int (gX G (l4 + 2 : Int32).toNatClampNeg), .int 1] h fun r7 h8 =>
      (vp_in (l4 + 1) (gN G)) ∧
      (vp_in (l4 + 2) (gN G)) ∧
      (vp_in (l4 + 3) (gN G)) ∧
      if (gX G (l4 + 3 : Int32).toNatClampNeg) = 0 then (
        (h8.1[l2]? = some (0, 11)) ∧
        ci G d m_X12_see [.ref l2, .int (gX G (l4 + 1 : Int32).toNatClampNeg), .int (gX G (l4 + 2 : Int32).toNatClampNeg), .int 0] h8 fun r9 h10 =>
        if r7 = r9 then (
          Wp G ((yL_law, cL_law, 7, (Option.some Jvm.ClassFile.FieldType.boolean)), d + 1, 601024, 7293034, post) (k1, k2) 23 [.ref 1200, .ref l1, .ref l2, .ref l3, .int (l4 + 7), .null, .null] [] h10
        ) else (
          (k1 ≤ 601024) ∧
          (k2 ≤ 7293034) ∧
          post (some (.int 0)) h10
        )
      ) else (
        (h8.1[l2]? = some (0, 11)) ∧
        ci G d m_X12_see [.ref l2, .int (gX G (l4 + 1 : Int32).toNatClampNeg), .int (gX G (l4 + 2 : Int32).toNatClampNeg), .int 1] h8 fun r11 h12 =>
        if r7 = r11 then (
          Wp G ((yL_law, cL_law, 7, (Option.some Jvm.ClassFile.FieldType.boolean)), d + 1, 601024, 7293034, post) (k1, k2) 23 [.ref 1200, .ref l1, .ref l2, .ref l3, .int (l4 + 7), .null, .null] [] h12
        ) else (
          (k1 ≤ 601024) ∧
          (k2 ≤ 7293034) ∧
          post (some (.int 0)) h12
        )
      )
    )) :
    Wp G ((yL_law, cL_law, 7, (Option.some Jvm.ClassFile.FieldType.boolean)), d + 1, 601024, 7293034, post) (k1, k2) 1237 [.ref 1200, .ref l1, .ref l2, .ref l3, .int l4, .null, .null] [] h := by
  refine w_aload_n dL_law_1237 rfl ?_
  refine w_aload_n dL_law_1238 rfl ?_
  refine w_iload dL_law_1239 rfl ?_
  refine w_iconst (v := 1) dL_law_1241 rfl ?_
  refine w_iadd dL_law_1242 ?_
  obtain ⟨e1, w⟩ := w
  refine w_sald dL_law_1243 e1 ?_
  refine w_aload_n dL_law_1244 rfl ?_
  refine w_iload dL_law_1245 rfl ?_
  refine w_iconst (v := 2) dL_law_1247 rfl ?_
  refine w_iadd dL_law_1248 ?_
  obtain ⟨e2, w⟩ := w
  refine w_sald dL_law_1249 e2 ?_
  refine w_aload_n dL_law_1250 rfl ?_
  refine w_iload dL_law_1251 rfl ?_
  refine w_iconst (v := 3) dL_law_1253 rfl ?_
  refine w_iadd dL_law_1254 ?_
  obtain ⟨e3, w⟩ := w
  refine w_sald dL_law_1255 e3 ?_
  refine w_if_eq (tgt := 1263) dL_law_1256 rfl (fun c => ?_) (fun c => ?_)
  · rw [if_pos c] at w
    refine w_iconst (v := 0) dL_law_1263 rfl ?_
    obtain ⟨e4, w⟩ := w
    refine w_callV (As := [.int (gX G (l4 + 1 : Int32).toNatClampNeg), .int (gX G (l4 + 2 : Int32).toNatClampNeg), .int 0]) (st := []) dL_law_1264 mt_X11_see g_1168 g_1169 g_1170 rfl e4 rfl rfl (Nat.le_of_ble_eq_true rfl) (Nat.le_refl _) ⟨hk1, hk2⟩ w ?_
    rintro v h2 ⟨r1, rfl, w⟩
    refine w_aload_n dL_law_1267 rfl ?_
    refine w_aload_n dL_law_1268 rfl ?_
    refine w_iload dL_law_1269 rfl ?_
    refine w_iconst (v := 1) dL_law_1271 rfl ?_
    refine w_iadd dL_law_1272 ?_
    obtain ⟨e1, w⟩ := w
    refine w_sald dL_law_1273 e1 ?_
    refine w_aload_n dL_law_1274 rfl ?_
    refine w_iload dL_law_1275 rfl ?_
    refine w_iconst (v := 2) dL_law_1277 rfl ?_
    refine w_iadd dL_law_1278 ?_
    obtain ⟨e2, w⟩ := w
    refine w_sald dL_law_1279 e2 ?_
    refine w_aload_n dL_law_1280 rfl ?_
    refine w_iload dL_law_1281 rfl ?_
    refine w_iconst (v := 3) dL_law_1283 rfl ?_
    refine w_iadd dL_law_1284 ?_
    obtain ⟨e3, w⟩ := w
    refine w_sald dL_law_1285 e3 ?_
    refine w_if_eq (tgt := 1293) dL_law_1286 rfl (fun c => ?_) (fun c => ?_)
    · rw [if_pos c] at w
      refine w_iconst (v := 0) dL_law_1293 rfl ?_
      obtain ⟨e4, w⟩ := w
      refine w_callV (As := [.int (gX G (l4 + 1 : Int32).toNatClampNeg), .int (gX G (l4 + 2 : Int32).toNatClampNeg), .int 0]) (st := [.int r1]) dL_law_1294 mt_X12_see g_1912 g_1913 g_1914 rfl e4 rfl rfl (Nat.le_of_ble_eq_true rfl) (Nat.le_refl _) ⟨hk1, hk2⟩ w ?_
      rintro v h4 ⟨r3, rfl, w⟩
      refine w_ic_eq (tgt := 1455) dL_law_1297 rfl (fun c => ?_) (fun c => ?_)
      · rw [if_pos c] at w
        refine v_iinc (l' := [.ref 1200, .ref l1, .ref l2, .ref l3, .int (l4 + 7), .null, .null]) (v := l4 + 7) dL_law_1455 rfl rfl (Nat.le_of_ble_eq_true rfl) rfl ?_
        refine w_goto (tgt := 23) dL_law_1458 rfl ?_
        exact w
      · rw [if_neg c] at w
        refine w_iconst (v := 0) dL_law_1300 rfl ?_
        obtain ⟨e1, w⟩ := w
        obtain ⟨e2, w⟩ := w
        exact w_ireturn dL_law_1301 rfl rfl ⟨e1, e2⟩ w
    · rw [if_neg c] at w
      refine w_iconst (v := 1) dL_law_1289 rfl ?_
      refine w_goto (tgt := 1294) dL_law_1290 rfl ?_
      obtain ⟨e4, w⟩ := w
      refine w_callV (As := [.int (gX G (l4 + 1 : Int32).toNatClampNeg), .int (gX G (l4 + 2 : Int32).toNatClampNeg), .int 1]) (st := [.int r1]) dL_law_1294 mt_X12_see g_1912 g_1913 g_1914 rfl e4 rfl rfl (Nat.le_of_ble_eq_true rfl) (Nat.le_refl _) ⟨hk1, hk2⟩ w ?_
      rintro v h6 ⟨r5, rfl, w⟩
      refine w_ic_eq (tgt := 1455) dL_law_1297 rfl (fun c => ?_) (fun c => ?_)
      · rw [if_pos c] at w
        refine v_iinc (l' := [.ref 1200, .ref l1, .ref l2, .ref l3, .int (l4 + 7), .null, .null]) (v := l4 + 7) dL_law_1455 rfl rfl (Nat.le_of_ble_eq_true rfl) rfl ?_
        refine w_goto (tgt := 23) dL_law_1458 rfl ?_
        exact w
      · rw [if_neg c] at w
        refine w_iconst (v := 0) dL_law_1300 rfl ?_
        obtain ⟨e1, w⟩ := w
        obtain ⟨e2, w⟩ := w
        exact w_ireturn dL_law_1301 rfl rfl ⟨e1, e2⟩ w
  · rw [if_neg c] at w
    refine w_iconst (v := 1) dL_law_1259 rfl ?_
    refine w_goto (tgt := 1264) dL_law_1260 rfl ?_
    obtain ⟨e4, w⟩ := w
    refine w_callV (As := [.int (gX G (l4 + 1 : Int32).toNatClampNeg), .int (gX G (l4 + 2 : Int32).toNatClampNeg), .int 1]) (st := []) dL_law_1264 mt_X11_see g_1168 g_1169 g_1170 rfl e4 rfl rfl (Nat.le_of_ble_eq_true rfl) (Nat.le_refl _) ⟨hk1, hk2⟩ w ?_
    rintro v h8 ⟨r7, rfl, w⟩
    refine w_aload_n dL_law_1267 rfl ?_
    refine w_aload_n dL_law_1268 rfl ?_
    refine w_iload dL_law_1269 rfl ?_
    refine w_iconst (v := 1) dL_law_1271 rfl ?_
    refine w_iadd dL_law_1272 ?_
    obtain ⟨e1, w⟩ := w
    refine w_sald dL_law_1273 e1 ?_
    refine w_aload_n dL_law_1274 rfl ?_
    refine w_iload dL_law_1275 rfl ?_
    refine w_iconst (v := 2) dL_law_1277 rfl ?_
    refine w_iadd dL_law_1278 ?_
    obtain ⟨e2, w⟩ := w
    refine w_sald dL_law_1279 e2 ?_
    refine w_aload_n dL_law_1280 rfl ?_
    refine w_iload dL_law_1281 rfl ?_
    refine w_iconst (v := 3) dL_law_1283 rfl ?_
    refine w_iadd dL_law_1284 ?_
    obtain ⟨e3, w⟩ := w
    refine w_sald dL_law_1285 e3 ?_
    refine w_if_eq (tgt := 1293) dL_law_1286 rfl (fun c => ?_) (fun c => ?_)
    · rw [if_pos c] at w
      refine w_iconst (v := 0) dL_law_1293 rfl ?_
      obtain ⟨e4, w⟩ := w
      refine w_callV (As := [.int (gX G (l4 + 1 : Int32).toNatClampNeg), .int (gX G (l4 + 2 : Int32).toNatClampNeg), .int 0]) (st := [.int r7]) dL_law_1294 mt_X12_see g_1912 g_1913 g_1914 rfl e4 rfl rfl (Nat.le_of_ble_eq_true rfl) (Nat.le_refl _) ⟨hk1, hk2⟩ w ?_
      rintro v h10 ⟨r9, rfl, w⟩
      refine w_ic_eq (tgt := 1455) dL_law_1297 rfl (fun c => ?_) (fun c => ?_)
      · rw [if_pos c] at w
        refine v_iinc (l' := [.ref 1200, .ref l1, .ref l2, .ref l3, .int (l4 + 7), .null, .null]) (v := l4 + 7) dL_law_1455 rfl rfl (Nat.le_of_ble_eq_true rfl) rfl ?_
        refine w_goto (tgt := 23) dL_law_1458 rfl ?_
        exact w
      · rw [if_neg c] at w
        refine w_iconst (v := 0) dL_law_1300 rfl ?_
        obtain ⟨e1, w⟩ := w
        obtain ⟨e2, w⟩ := w
        exact w_ireturn dL_law_1301 rfl rfl ⟨e1, e2⟩ w
    · rw [if_neg c] at w
      refine w_iconst (v := 1) dL_law_1289 rfl ?_
      refine w_goto (tgt := 1294) dL_law_1290 rfl ?_
      obtain ⟨e4, w⟩ := w
      refine w_callV (As := [.int (gX G (l4 + 1 : Int32).toNatClampNeg), .int (gX G (l4 + 2 : Int32).toNatClampNeg), .int 1]) (st := [.int r7]) dL_law_1294 mt_X12_see g_1912 g_1913 g_1914 rfl e4 rfl rfl (Nat.le_of_ble_eq_true rfl) (Nat.le_refl _) ⟨hk1, hk2⟩ w ?_
      rintro v h12 ⟨r11, rfl, w⟩
      refine w_ic_eq (tgt := 1455) dL_law_1297 rfl (fun c => ?_) (fun c => ?_)
      · rw [if_pos c] at w
        refine v_iinc (l' := [.ref 1200, .ref l1, .ref l2, .ref l3, .int (l4 + 7), .null, .null]) (v := l4 + 7) dL_law_1455 rfl rfl (Nat.le_of_ble_eq_true rfl) rfl ?_
        refine w_goto (tgt := 23) dL_law_1458 rfl ?_
        exact w
      · rw [if_neg c] at w
        refine w_iconst (v := 0) dL_law_1300 rfl ?_
        obtain ⟨e1, w⟩ := w
        obtain ⟨e2, w⟩ := w
        exact w_ireturn dL_law_1301 rfl rfl ⟨e1, e2⟩ w
set_option maxRecDepth 20000 in
set_option maxHeartbeats 4000000 in
theorem x_L_law_1302 {G : pm_G} {d : Nat} {post : pm_PT} {h : pm_H} {k1 k2 : Nat} {l1 : Nat} {l2 : Nat} {l3 : Nat} {l4 : Int32} (hk1 : k1 ≤ 601024) (hk2 : k2 ≤ 7293034) (w :
    (h.1[l1]? = some (0, 10)) ∧
    ci G d m_X11_who [.ref l1] h fun r1 h2 =>
    (h2.1[l2]? = some (0, 11)) ∧
    ci G d m_X12_who [.ref l2] h2 fun r3 h4 =>
    if r1 = r3 then (
      Wp G ((yL_law, cL_law, 7, (Option.some Jvm.ClassFile.FieldType.boolean)), d + 1, 601024, 7293034, post) (k1, k2) 23 [.ref 1200, .ref l1, .ref l2, .ref l3, .int (l4 + 7), .null, .null] [] h4
    ) else (
      (k1 ≤ 601024) ∧
      (k2 ≤ 7293034) ∧
      post (some (.int 0)) h4
    )) :
    Wp G ((yL_law, cL_law, 7, (Option.some Jvm.ClassFile.FieldType.boolean)), d + 1, 601024, 7293034, post) (k1, k2) 1302 [.ref 1200, .ref l1, .ref l2, .ref l3, .int l4, .null, .null] [] h := by
  refine w_aload_n dL_law_1302 rfl ?_
  obtain ⟨e1, w⟩ := w
  refine w_callV (As := []) (st := []) dL_law_1303 mt_X11_who g_1173 g_1174 g_1175 rfl e1 rfl rfl (Nat.le_of_ble_eq_true rfl) (Nat.le_refl _) ⟨hk1, hk2⟩ w ?_
  rintro v h2 ⟨r1, rfl, w⟩
  refine w_aload_n dL_law_1306 rfl ?_
  obtain ⟨e1, w⟩ := w
  refine w_callV (As := []) (st := [.int r1]) dL_law_1307 mt_X12_who g_1916 g_1917 g_1918 rfl e1 rfl rfl (Nat.le_of_ble_eq_true rfl) (Nat.le_refl _) ⟨hk1, hk2⟩ w ?_
  rintro v h4 ⟨r3, rfl, w⟩
  refine w_ic_eq (tgt := 1455) dL_law_1310 rfl (fun c => ?_) (fun c => ?_)
  · rw [if_pos c] at w
    refine v_iinc (l' := [.ref 1200, .ref l1, .ref l2, .ref l3, .int (l4 + 7), .null, .null]) (v := l4 + 7) dL_law_1455 rfl rfl (Nat.le_of_ble_eq_true rfl) rfl ?_
    refine w_goto (tgt := 23) dL_law_1458 rfl ?_
    exact w
  · rw [if_neg c] at w
    refine w_iconst (v := 0) dL_law_1313 rfl ?_
    obtain ⟨e1, w⟩ := w
    obtain ⟨e2, w⟩ := w
    exact w_ireturn dL_law_1314 rfl rfl ⟨e1, e2⟩ w
set_option maxRecDepth 20000 in
set_option maxHeartbeats 4000000 in
theorem x_L_law_1315 {G : pm_G} {d : Nat} {post : pm_PT} {h : pm_H} {k1 k2 : Nat} {l1 : Nat} {l2 : Nat} {l3 : Nat} {l4 : Int32} (hk1 : k1 ≤ 601024) (hk2 : k2 ≤ 7293034) (w :
    (h.1[l1]? = some (0, 10)) ∧
    ci G d m_X11_ask [.ref l1] h fun r1 h2 =>
    (h2.1[l2]? = some (0, 11)) ∧
    ci G d m_X12_ask [.ref l2] h2 fun r3 h4 =>
    if r1 = r3 then (
      Wp G ((yL_law, cL_law, 7, (Option.some Jvm.ClassFile.FieldType.boolean)), d + 1, 601024, 7293034, post) (k1, k2) 23 [.ref 1200, .ref l1, .ref l2, .ref l3, .int (l4 + 7), .null, .null] [] h4
    ) else (
      (k1 ≤ 601024) ∧
      (k2 ≤ 7293034) ∧
      post (some (.int 0)) h4
    )) :
    Wp G ((yL_law, cL_law, 7, (Option.some Jvm.ClassFile.FieldType.boolean)), d + 1, 601024, 7293034, post) (k1, k2) 1315 [.ref 1200, .ref l1, .ref l2, .ref l3, .int l4, .null, .null] [] h := by
  refine w_aload_n dL_law_1315 rfl ?_
  obtain ⟨e1, w⟩ := w
  refine w_callV (As := []) (st := []) dL_law_1316 mt_X11_ask g_1190 g_1191 g_1192 rfl e1 rfl rfl (Nat.le_of_ble_eq_true rfl) (Nat.le_refl _) ⟨hk1, hk2⟩ w ?_
  rintro v h2 ⟨r1, rfl, w⟩
  refine w_aload_n dL_law_1319 rfl ?_
  obtain ⟨e1, w⟩ := w
  refine w_callV (As := []) (st := [.int r1]) dL_law_1320 mt_X12_ask g_1928 g_1929 g_1930 rfl e1 rfl rfl (Nat.le_of_ble_eq_true rfl) (Nat.le_refl _) ⟨hk1, hk2⟩ w ?_
  rintro v h4 ⟨r3, rfl, w⟩
  refine w_ic_eq (tgt := 1455) dL_law_1323 rfl (fun c => ?_) (fun c => ?_)
  · rw [if_pos c] at w
    refine v_iinc (l' := [.ref 1200, .ref l1, .ref l2, .ref l3, .int (l4 + 7), .null, .null]) (v := l4 + 7) dL_law_1455 rfl rfl (Nat.le_of_ble_eq_true rfl) rfl ?_
    refine w_goto (tgt := 23) dL_law_1458 rfl ?_
    exact w
  · rw [if_neg c] at w
    refine w_iconst (v := 0) dL_law_1326 rfl ?_
    obtain ⟨e1, w⟩ := w
    obtain ⟨e2, w⟩ := w
    exact w_ireturn dL_law_1327 rfl rfl ⟨e1, e2⟩ w
set_option maxRecDepth 20000 in
set_option maxHeartbeats 4000000 in
theorem x_L_law_1328 {G : pm_G} {d : Nat} {post : pm_PT} {h : pm_H} {k1 k2 : Nat} {l1 : Nat} {l2 : Nat} {l3 : Nat} {l4 : Int32} (hk1 : k1 ≤ 601024) (hk2 : k2 ≤ 7293034) (w :
    (vp_in (l4 + 1) (gN G)) ∧
    (vp_in (l4 + 2) (gN G)) ∧
    (vp_in (l4 + 3) (gN G)) ∧
    (h.1[l1]? = some (0, 10)) ∧
    ci G d m_X11_days [.ref l1, .int (gX G (l4 + 1 : Int32).toNatClampNeg), .int (gX G (l4 + 2 : Int32).toNatClampNeg), .int (gX G (l4 + 3 : Int32).toNatClampNeg)] h fun r1 h2 =>
    (vp_in (l4 + 1) (gN G)) ∧
    (vp_in (l4 + 2) (gN G)) ∧
    (vp_in (l4 + 3) (gN G)) ∧
    (h2.1[l2]? = some (0, 11)) ∧
    ci G d m_X12_days [.ref l2, .int (gX G (l4 + 1 : Int32).toNatClampNeg), .int (gX G (l4 + 2 : Int32).toNatClampNeg), .int (gX G (l4 + 3 : Int32).toNatClampNeg)] h2 fun r3 h4 =>
    if r1 = r3 then (
      Wp G ((yL_law, cL_law, 7, (Option.some Jvm.ClassFile.FieldType.boolean)), d + 1, 601024, 7293034, post) (k1, k2) 23 [.ref 1200, .ref l1, .ref l2, .ref l3, .int (l4 + 7), .null, .null] [] h4
    ) else (
      (k1 ≤ 601024) ∧
      (k2 ≤ 7293034) ∧
      post (some (.int 0)) h4
    )) :
    Wp G ((yL_law, cL_law, 7, (Option.some Jvm.ClassFile.FieldType.boolean)), d + 1, 601024, 7293034, post) (k1, k2) 1328 [.ref 1200, .ref l1, .ref l2, .ref l3, .int l4, .null, .null] [] h := by
  refine w_aload_n dL_law_1328 rfl ?_
  refine w_aload_n dL_law_1329 rfl ?_
  refine w_iload dL_law_1330 rfl ?_
  refine w_iconst (v := 1) dL_law_1332 rfl ?_
  refine w_iadd dL_law_1333 ?_
  obtain ⟨e1, w⟩ := w
  refine w_sald dL_law_1334 e1 ?_
  refine w_aload_n dL_law_1335 rfl ?_
  refine w_iload dL_law_1336 rfl ?_
  refine w_iconst (v := 2) dL_law_1338 rfl ?_
  refine w_iadd dL_law_1339 ?_
  obtain ⟨e2, w⟩ := w
  refine w_sald dL_law_1340 e2 ?_
  refine w_aload_n dL_law_1341 rfl ?_
  refine w_iload dL_law_1342 rfl ?_
  refine w_iconst (v := 3) dL_law_1344 rfl ?_
  refine w_iadd dL_law_1345 ?_
  obtain ⟨e3, w⟩ := w
  refine w_sald dL_law_1346 e3 ?_
  obtain ⟨e4, w⟩ := w
  refine w_callV (As := [.int (gX G (l4 + 1 : Int32).toNatClampNeg), .int (gX G (l4 + 2 : Int32).toNatClampNeg), .int (gX G (l4 + 3 : Int32).toNatClampNeg)]) (st := []) dL_law_1347 mt_X11_days g_1204 g_1205 g_1206 rfl e4 rfl rfl (Nat.le_of_ble_eq_true rfl) (Nat.le_refl _) ⟨hk1, hk2⟩ w ?_
  rintro v h2 ⟨r1, rfl, w⟩
  refine w_aload_n dL_law_1350 rfl ?_
  refine w_aload_n dL_law_1351 rfl ?_
  refine w_iload dL_law_1352 rfl ?_
  refine w_iconst (v := 1) dL_law_1354 rfl ?_
  refine w_iadd dL_law_1355 ?_
  obtain ⟨e1, w⟩ := w
  refine w_sald dL_law_1356 e1 ?_
  refine w_aload_n dL_law_1357 rfl ?_
  refine w_iload dL_law_1358 rfl ?_
  refine w_iconst (v := 2) dL_law_1360 rfl ?_
  refine w_iadd dL_law_1361 ?_
  obtain ⟨e2, w⟩ := w
  refine w_sald dL_law_1362 e2 ?_
  refine w_aload_n dL_law_1363 rfl ?_
  refine w_iload dL_law_1364 rfl ?_
  refine w_iconst (v := 3) dL_law_1366 rfl ?_
  refine w_iadd dL_law_1367 ?_
  obtain ⟨e3, w⟩ := w
  refine w_sald dL_law_1368 e3 ?_
  obtain ⟨e4, w⟩ := w
  refine w_callV (As := [.int (gX G (l4 + 1 : Int32).toNatClampNeg), .int (gX G (l4 + 2 : Int32).toNatClampNeg), .int (gX G (l4 + 3 : Int32).toNatClampNeg)]) (st := [.int r1]) dL_law_1369 mt_X12_days g_1935 g_1936 g_1937 rfl e4 rfl rfl (Nat.le_of_ble_eq_true rfl) (Nat.le_refl _) ⟨hk1, hk2⟩ w ?_
  rintro v h4 ⟨r3, rfl, w⟩
  refine w_ic_eq (tgt := 1455) dL_law_1372 rfl (fun c => ?_) (fun c => ?_)
  · rw [if_pos c] at w
    refine v_iinc (l' := [.ref 1200, .ref l1, .ref l2, .ref l3, .int (l4 + 7), .null, .null]) (v := l4 + 7) dL_law_1455 rfl rfl (Nat.le_of_ble_eq_true rfl) rfl ?_
    refine w_goto (tgt := 23) dL_law_1458 rfl ?_
    exact w
  · rw [if_neg c] at w
    refine w_iconst (v := 0) dL_law_1375 rfl ?_
    obtain ⟨e1, w⟩ := w
    obtain ⟨e2, w⟩ := w
    exact w_ireturn dL_law_1376 rfl rfl ⟨e1, e2⟩ w
set_option maxRecDepth 20000 in
set_option maxHeartbeats 4000000 in
theorem x_L_law_1377 {G : pm_G} {d : Nat} {post : pm_PT} {h : pm_H} {k1 k2 : Nat} {l1 : Nat} {l2 : Nat} {l3 : Nat} {l4 : Int32} (hk1 : k1 ≤ 601024) (hk2 : k2 ≤ 7293034) (w :
    (vp_in (l4 + 1) (gN G)) ∧
    (vp_in (l4 + 2) (gN G)) ∧
    if (gX G (l4 + 2 : Int32).toNatClampNeg) = 0 then (
      (h.1[l1]? = some (0, 10)) ∧
      ci G d m_X11_mark [.ref l1, .int (gX G (l4 + 1 : Int32).toNatClampNeg), .int 0] h fun r1 h2 =>
      (vp_in (l4 + 1) (gN G)) ∧
      (vp_in (l4 + 2) (gN G)) ∧
      if (gX G (l4 + 2 : Int32).toNatClampNeg) = 0 then (
        (h2.1[l2]? = some (0, 11)) ∧
        ci G d m_X12_mark [.ref l2, .int (gX G (l4 + 1 : Int32).toNatClampNeg), .int 0] h2 fun r3 h4 =>
        if r1 = r3 then (
          Wp G ((yL_law, cL_law, 7, (Option.some Jvm.ClassFile.FieldType.boolean)), d + 1, 601024, 7293034, post) (k1, k2) 23 [.ref 1200, .ref l1, .ref l2, .ref l3, .int (l4 + 7), .null, .null] [] h4
        ) else (
          (k1 ≤ 601024) ∧
          (k2 ≤ 7293034) ∧
          post (some (.int 0)) h4
        )
      ) else (
        (h2.1[l2]? = some (0, 11)) ∧
        ci G d m_X12_mark [.ref l2, .int (gX G (l4 + 1 : Int32).toNatClampNeg), .int 1] h2 fun r5 h6 =>
        if r1 = r5 then (
          Wp G ((yL_law, cL_law, 7, (Option.some Jvm.ClassFile.FieldType.boolean)), d + 1, 601024, 7293034, post) (k1, k2) 23 [.ref 1200, .ref l1, .ref l2, .ref l3, .int (l4 + 7), .null, .null] [] h6
        ) else (
          (k1 ≤ 601024) ∧
          (k2 ≤ 7293034) ∧
          post (some (.int 0)) h6
        )
      )
    ) else (
      (h.1[l1]? = some (0, 10)) ∧
      ci G d m_X11_mark [.ref l1, .int (gX G (l4 + 1 : Int32).toNatClampNeg), .int 1] h fun r7 h8 =>
      (vp_in (l4 + 1) (gN G)) ∧
      (vp_in (l4 + 2) (gN G)) ∧
      if (gX G (l4 + 2 : Int32).toNatClampNeg) = 0 then (
        (h8.1[l2]? = some (0, 11)) ∧
        ci G d m_X12_mark [.ref l2, .int (gX G (l4 + 1 : Int32).toNatClampNeg), .int 0] h8 fun r9 h10 =>
        if r7 = r9 then (
          Wp G ((yL_law, cL_law, 7, (Option.some Jvm.ClassFile.FieldType.boolean)), d + 1, 601024, 7293034, post) (k1, k2) 23 [.ref 1200, .ref l1, .ref l2, .ref l3, .int (l4 + 7), .null, .null] [] h10
        ) else (
          (k1 ≤ 601024) ∧
          (k2 ≤ 7293034) ∧
          post (some (.int 0)) h10
        )
      ) else (
        (h8.1[l2]? = some (0, 11)) ∧
        ci G d m_X12_mark [.ref l2, .int (gX G (l4 + 1 : Int32).toNatClampNeg), .int 1] h8 fun r11 h12 =>
        if r7 = r11 then (
          Wp G ((yL_law, cL_law, 7, (Option.some Jvm.ClassFile.FieldType.boolean)), d + 1, 601024, 7293034, post) (k1, k2) 23 [.ref 1200, .ref l1, .ref l2, .ref l3, .int (l4 + 7), .null, .null] [] h12
        ) else (
          (k1 ≤ 601024) ∧
          (k2 ≤ 7293034) ∧
          post (some (.int 0)) h12
        )
      )
    )) :
    Wp G ((yL_law, cL_law, 7, (Option.some Jvm.ClassFile.FieldType.boolean)), d + 1, 601024, 7293034, post) (k1, k2) 1377 [.ref 1200, .ref l1, .ref l2, .ref l3, .int l4, .null, .null] [] h := by
  refine w_aload_n dL_law_1377 rfl ?_
  refine w_aload_n dL_law_1378 rfl ?_
  refine w_iload dL_law_1379 rfl ?_
  refine w_iconst (v := 1) dL_law_1381 rfl ?_
  refine w_iadd dL_law_1382 ?_
  obtain ⟨e1, w⟩ := w
  refine w_sald dL_law_1383 e1 ?_
  refine w_aload_n dL_law_1384 rfl ?_
  refine w_iload dL_law_1385 rfl ?_
  refine w_iconst (v := 2) dL_law_1387 rfl ?_
  refine w_iadd dL_law_1388 ?_
  obtain ⟨e2, w⟩ := w
  refine w_sald dL_law_1389 e2 ?_
  refine w_if_eq (tgt := 1397) dL_law_1390 rfl (fun c => ?_) (fun c => ?_)
  · rw [if_pos c] at w
    refine w_iconst (v := 0) dL_law_1397 rfl ?_
    obtain ⟨e3, w⟩ := w
    refine w_callV (As := [.int (gX G (l4 + 1 : Int32).toNatClampNeg), .int 0]) (st := []) dL_law_1398 mt_X11_mark g_1220 g_1221 g_1222 rfl e3 rfl rfl (Nat.le_of_ble_eq_true rfl) (Nat.le_refl _) ⟨hk1, hk2⟩ w ?_
    rintro v h2 ⟨r1, rfl, w⟩
    refine w_aload_n dL_law_1401 rfl ?_
    refine w_aload_n dL_law_1402 rfl ?_
    refine w_iload dL_law_1403 rfl ?_
    refine w_iconst (v := 1) dL_law_1405 rfl ?_
    refine w_iadd dL_law_1406 ?_
    obtain ⟨e1, w⟩ := w
    refine w_sald dL_law_1407 e1 ?_
    refine w_aload_n dL_law_1408 rfl ?_
    refine w_iload dL_law_1409 rfl ?_
    refine w_iconst (v := 2) dL_law_1411 rfl ?_
    refine w_iadd dL_law_1412 ?_
    obtain ⟨e2, w⟩ := w
    refine w_sald dL_law_1413 e2 ?_
    refine w_if_eq (tgt := 1421) dL_law_1414 rfl (fun c => ?_) (fun c => ?_)
    · rw [if_pos c] at w
      refine w_iconst (v := 0) dL_law_1421 rfl ?_
      obtain ⟨e3, w⟩ := w
      refine w_callV (As := [.int (gX G (l4 + 1 : Int32).toNatClampNeg), .int 0]) (st := [.int r1]) dL_law_1422 mt_X12_mark g_1951 g_1952 g_1953 rfl e3 rfl rfl (Nat.le_of_ble_eq_true rfl) (Nat.le_refl _) ⟨hk1, hk2⟩ w ?_
      rintro v h4 ⟨r3, rfl, w⟩
      refine w_ic_eq (tgt := 1455) dL_law_1425 rfl (fun c => ?_) (fun c => ?_)
      · rw [if_pos c] at w
        refine v_iinc (l' := [.ref 1200, .ref l1, .ref l2, .ref l3, .int (l4 + 7), .null, .null]) (v := l4 + 7) dL_law_1455 rfl rfl (Nat.le_of_ble_eq_true rfl) rfl ?_
        refine w_goto (tgt := 23) dL_law_1458 rfl ?_
        exact w
      · rw [if_neg c] at w
        refine w_iconst (v := 0) dL_law_1428 rfl ?_
        obtain ⟨e1, w⟩ := w
        obtain ⟨e2, w⟩ := w
        exact w_ireturn dL_law_1429 rfl rfl ⟨e1, e2⟩ w
    · rw [if_neg c] at w
      refine w_iconst (v := 1) dL_law_1417 rfl ?_
      refine w_goto (tgt := 1422) dL_law_1418 rfl ?_
      obtain ⟨e3, w⟩ := w
      refine w_callV (As := [.int (gX G (l4 + 1 : Int32).toNatClampNeg), .int 1]) (st := [.int r1]) dL_law_1422 mt_X12_mark g_1951 g_1952 g_1953 rfl e3 rfl rfl (Nat.le_of_ble_eq_true rfl) (Nat.le_refl _) ⟨hk1, hk2⟩ w ?_
      rintro v h6 ⟨r5, rfl, w⟩
      refine w_ic_eq (tgt := 1455) dL_law_1425 rfl (fun c => ?_) (fun c => ?_)
      · rw [if_pos c] at w
        refine v_iinc (l' := [.ref 1200, .ref l1, .ref l2, .ref l3, .int (l4 + 7), .null, .null]) (v := l4 + 7) dL_law_1455 rfl rfl (Nat.le_of_ble_eq_true rfl) rfl ?_
        refine w_goto (tgt := 23) dL_law_1458 rfl ?_
        exact w
      · rw [if_neg c] at w
        refine w_iconst (v := 0) dL_law_1428 rfl ?_
        obtain ⟨e1, w⟩ := w
        obtain ⟨e2, w⟩ := w
        exact w_ireturn dL_law_1429 rfl rfl ⟨e1, e2⟩ w
  · rw [if_neg c] at w
    refine w_iconst (v := 1) dL_law_1393 rfl ?_
    refine w_goto (tgt := 1398) dL_law_1394 rfl ?_
    obtain ⟨e3, w⟩ := w
    refine w_callV (As := [.int (gX G (l4 + 1 : Int32).toNatClampNeg), .int 1]) (st := []) dL_law_1398 mt_X11_mark g_1220 g_1221 g_1222 rfl e3 rfl rfl (Nat.le_of_ble_eq_true rfl) (Nat.le_refl _) ⟨hk1, hk2⟩ w ?_
    rintro v h8 ⟨r7, rfl, w⟩
    refine w_aload_n dL_law_1401 rfl ?_
    refine w_aload_n dL_law_1402 rfl ?_
    refine w_iload dL_law_1403 rfl ?_
    refine w_iconst (v := 1) dL_law_1405 rfl ?_
    refine w_iadd dL_law_1406 ?_
    obtain ⟨e1, w⟩ := w
    refine w_sald dL_law_1407 e1 ?_
    refine w_aload_n dL_law_1408 rfl ?_
    refine w_iload dL_law_1409 rfl ?_
    refine w_iconst (v := 2) dL_law_1411 rfl ?_
    refine w_iadd dL_law_1412 ?_
    obtain ⟨e2, w⟩ := w
    refine w_sald dL_law_1413 e2 ?_
    refine w_if_eq (tgt := 1421) dL_law_1414 rfl (fun c => ?_) (fun c => ?_)
    · rw [if_pos c] at w
      refine w_iconst (v := 0) dL_law_1421 rfl ?_
      obtain ⟨e3, w⟩ := w
      refine w_callV (As := [.int (gX G (l4 + 1 : Int32).toNatClampNeg), .int 0]) (st := [.int r7]) dL_law_1422 mt_X12_mark g_1951 g_1952 g_1953 rfl e3 rfl rfl (Nat.le_of_ble_eq_true rfl) (Nat.le_refl _) ⟨hk1, hk2⟩ w ?_
      rintro v h10 ⟨r9, rfl, w⟩
      refine w_ic_eq (tgt := 1455) dL_law_1425 rfl (fun c => ?_) (fun c => ?_)
      · rw [if_pos c] at w
        refine v_iinc (l' := [.ref 1200, .ref l1, .ref l2, .ref l3, .int (l4 + 7), .null, .null]) (v := l4 + 7) dL_law_1455 rfl rfl (Nat.le_of_ble_eq_true rfl) rfl ?_
        refine w_goto (tgt := 23) dL_law_1458 rfl ?_
        exact w
      · rw [if_neg c] at w
        refine w_iconst (v := 0) dL_law_1428 rfl ?_
        obtain ⟨e1, w⟩ := w
        obtain ⟨e2, w⟩ := w
        exact w_ireturn dL_law_1429 rfl rfl ⟨e1, e2⟩ w
    · rw [if_neg c] at w
      refine w_iconst (v := 1) dL_law_1417 rfl ?_
      refine w_goto (tgt := 1422) dL_law_1418 rfl ?_
      obtain ⟨e3, w⟩ := w
      refine w_callV (As := [.int (gX G (l4 + 1 : Int32).toNatClampNeg), .int 1]) (st := [.int r7]) dL_law_1422 mt_X12_mark g_1951 g_1952 g_1953 rfl e3 rfl rfl (Nat.le_of_ble_eq_true rfl) (Nat.le_refl _) ⟨hk1, hk2⟩ w ?_
      rintro v h12 ⟨r11, rfl, w⟩
      refine w_ic_eq (tgt := 1455) dL_law_1425 rfl (fun c => ?_) (fun c => ?_)
      · rw [if_pos c] at w
        refine v_iinc (l' := [.ref 1200, .ref l1, .ref l2, .ref l3, .int (l4 + 7), .null, .null]) (v := l4 + 7) dL_law_1455 rfl rfl (Nat.le_of_ble_eq_true rfl) rfl ?_
        refine w_goto (tgt := 23) dL_law_1458 rfl ?_
        exact w
      · rw [if_neg c] at w
        refine w_iconst (v := 0) dL_law_1428 rfl ?_
        obtain ⟨e1, w⟩ := w
        obtain ⟨e2, w⟩ := w
        exact w_ireturn dL_law_1429 rfl rfl ⟨e1, e2⟩ w
set_option maxRecDepth 20000 in
set_option maxHeartbeats 4000000 in
theorem x_L_law_1430 {G : pm_G} {d : Nat} {post : pm_PT} {h : pm_H} {k1 k2 : Nat} {l1 : Nat} {l2 : Nat} {l3 : Nat} {l4 : Int32} (hk1 : k1 ≤ 601024) (hk2 : k2 ≤ 7293034) (w :
    (vp_in (l4 + 1) (gN G)) ∧
    (h.1[l1]? = some (0, 10)) ∧
    ci G d m_X11_count [.ref l1, .int (gX G (l4 + 1 : Int32).toNatClampNeg)] h fun r1 h2 =>
    (vp_in (l4 + 1) (gN G)) ∧
    (h2.1[l2]? = some (0, 11)) ∧
    ci G d m_X12_count [.ref l2, .int (gX G (l4 + 1 : Int32).toNatClampNeg)] h2 fun r3 h4 =>
    if r1 = r3 then (
      Wp G ((yL_law, cL_law, 7, (Option.some Jvm.ClassFile.FieldType.boolean)), d + 1, 601024, 7293034, post) (k1, k2) 23 [.ref 1200, .ref l1, .ref l2, .ref l3, .int (l4 + 7), .null, .null] [] h4
    ) else (
      (k1 ≤ 601024) ∧
      (k2 ≤ 7293034) ∧
      post (some (.int 0)) h4
    )) :
    Wp G ((yL_law, cL_law, 7, (Option.some Jvm.ClassFile.FieldType.boolean)), d + 1, 601024, 7293034, post) (k1, k2) 1430 [.ref 1200, .ref l1, .ref l2, .ref l3, .int l4, .null, .null] [] h := by
  refine w_aload_n dL_law_1430 rfl ?_
  refine w_aload_n dL_law_1431 rfl ?_
  refine w_iload dL_law_1432 rfl ?_
  refine w_iconst (v := 1) dL_law_1434 rfl ?_
  refine w_iadd dL_law_1435 ?_
  obtain ⟨e1, w⟩ := w
  refine w_sald dL_law_1436 e1 ?_
  obtain ⟨e2, w⟩ := w
  refine w_callV (As := [.int (gX G (l4 + 1 : Int32).toNatClampNeg)]) (st := []) dL_law_1437 mt_X11_count g_1230 g_1231 g_1232 rfl e2 rfl rfl (Nat.le_of_ble_eq_true rfl) (Nat.le_refl _) ⟨hk1, hk2⟩ w ?_
  rintro v h2 ⟨r1, rfl, w⟩
  refine w_aload_n dL_law_1440 rfl ?_
  refine w_aload_n dL_law_1441 rfl ?_
  refine w_iload dL_law_1442 rfl ?_
  refine w_iconst (v := 1) dL_law_1444 rfl ?_
  refine w_iadd dL_law_1445 ?_
  obtain ⟨e1, w⟩ := w
  refine w_sald dL_law_1446 e1 ?_
  obtain ⟨e2, w⟩ := w
  refine w_callV (As := [.int (gX G (l4 + 1 : Int32).toNatClampNeg)]) (st := [.int r1]) dL_law_1447 mt_X12_count g_1955 g_1956 g_1957 rfl e2 rfl rfl (Nat.le_of_ble_eq_true rfl) (Nat.le_refl _) ⟨hk1, hk2⟩ w ?_
  rintro v h4 ⟨r3, rfl, w⟩
  refine w_ic_eq (tgt := 1455) dL_law_1450 rfl (fun c => ?_) (fun c => ?_)
  · rw [if_pos c] at w
    refine v_iinc (l' := [.ref 1200, .ref l1, .ref l2, .ref l3, .int (l4 + 7), .null, .null]) (v := l4 + 7) dL_law_1455 rfl rfl (Nat.le_of_ble_eq_true rfl) rfl ?_
    refine w_goto (tgt := 23) dL_law_1458 rfl ?_
    exact w
  · rw [if_neg c] at w
    refine w_iconst (v := 0) dL_law_1453 rfl ?_
    obtain ⟨e1, w⟩ := w
    obtain ⟨e2, w⟩ := w
    exact w_ireturn dL_law_1454 rfl rfl ⟨e1, e2⟩ w
