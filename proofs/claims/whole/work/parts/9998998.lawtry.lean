/-! THE LAW's two methods that try -/
def ct' (G : pm_G) (d : Nat) (mi : pm_I) (hh : List (Nat × Nat × Nat × Nat)) (av : List Value) (h : pm_H) (Q : Int32 → pm_H → Prop) : Prop :=
  (∀ v ∈ av, pm_ok h.1.length v) → ∀ (ad : pm_AD), Met (gl G) mi.1 (Cond.codeWith mi.1 mi.2.1 mi.2.2.1 mi.2.2.2 hh :: gw) (pm_rm d 1 6) (va_Pc (av.map (pm_vm ad)) (fun U => pm_S G ad h U.heap ∧ pm_T G U U.heap)) (pm_Q G ad h.1.length (fun v h1 => ∃ r, v = some (.int r) ∧ Q r h1)) 1 6 (pm_A G)
theorem ct'_wp {G : pm_G} {d : Nat} {h : pm_H} {mi : pm_I} {hh : List (Nat × Nat × Nat × Nat)} {av l : List Value} {Q : Int32 → pm_H → Prop} (hy : plainName mi.1.cls = true) (hn : (pm_ent av).length ≤ mi.2.2.1) (hl : pm_ent0 av mi.2.2.1 = l) (w : WpT G hh (mi, d, 1, 6, fun v h1 => ∃ r, v = some (.int r) ∧ Q r h1) (0, 0) 0 l [] h) : ct' G d mi hh av h Q := by
  subst hl
  intro hok ad
  refine va_MetW (cc := mi.2.1) (maxL := mi.2.2.1) (ret := mi.2.2.2) (hh := hh) hy rfl ?_
  intro p e s m args below meth c s₁ B hml hv
  obtain ⟨rfl, hS, hT⟩ := hv
  have hts := atoms_spec (ws := Cond.codeWith mi.1 mi.2.1 mi.2.2.1 mi.2.2.2 hh :: gw) B.pre
  have hxt := vx_table (x := mi.1) B (hts _ List.mem_cons_self)
  have hown : s.vm.findClass mi.1.cls = some m.cls := findClass_of_methodNamed B.named
  rw [lg_entry_eq]
  exact w ad h.1.length ad p e s m _ below meth c s.heap _ [] ⟨B.exec, B.bytes, hml, hown, fun w hw => hts w (List.mem_cons_of_mem _ hw), B.returns, B.notSynchronized, (name_of_methodNamed B.named B.method).1, hT⟩ hxt (Nat.le_refl _) (fun _ _ => rfl) hS va_S.rf (pm_ent_L ad av hn) (pm_ent_ok hok) (fun v hv => by cases hv)
abbrev m_L_comes : pm_I := (yL_comes, cL_comes, 5, (Option.some Jvm.ClassFile.FieldType.int))
abbrev m_L_away : pm_I := (yL_away, cL_away, 5, (Option.some Jvm.ClassFile.FieldType.int))
section LTR
variable {G : pm_G} {d : Nat} {h : pm_H} {s : Sta} {w : Nat}
theorem g_1238 : (Jvm.Cond.methodLink "RaisedQueueLaw" (7 : Nat) ({ cls := "RaisedQueue", name := "comes", desc := "(II)I" } : Jvm.MethodName)) ∈ gw := List.mem_filter.mpr ⟨List.mem_of_getElem? (i := 1238) (by decide +kernel), by decide +kernel⟩
theorem g_1239 : (Jvm.Cond.instanceMethod ({ cls := "RaisedQueue", name := "comes", desc := "(II)I" } : Jvm.MethodName)) ∈ gw := List.mem_filter.mpr ⟨List.mem_of_getElem? (i := 1239) (by decide +kernel), by decide +kernel⟩
theorem g_1240 : (Jvm.Cond.selects "RaisedQueue" ({ cls := "RaisedQueue", name := "comes", desc := "(II)I" } : Jvm.MethodName) ({ cls := "RaisedQueue", name := "comes", desc := "(II)I" } : Jvm.MethodName)) ∈ gw := List.mem_filter.mpr ⟨List.mem_of_getElem? (i := 1240) (by decide +kernel), by decide +kernel⟩
theorem l_comes {x y : Int32} {Q : Int32 → pm_H → Prop} (i : InvC h s) (ok : okSta s w) (hw : w ≤ 1000) (k : ∀ h' r, InvC h' (shS s x) → FrA h h' → aComes s x y = some r → Q 0 (sl h' 463 0 r.toInt64)) (kx : ∀ h', InvC h' (shS s x) → FrA h h' → aComes s x y = none → Q 1 h') : ct' G (d + 7) m_L_comes [(0, 10, 13, 13)] [.ref 0, .int x, .int y, .ref 463] h Q := by
  refine ct'_wp rfl (Nat.le_of_ble_eq_true rfl) rfl ?_
  refine wt_aload_n dL_comes_0 rfl ?_
  refine wt_iconst (v := 0) dL_comes_1 rfl ?_
  refine wt_aload_n dL_comes_2 rfl ?_
  refine wt_iload_n dL_comes_3 rfl ?_
  refine wt_iload_n dL_comes_4 rfl ?_
  refine wt_callX (As := [.int x, .int y]) (st := [.int 0, .ref 463]) (b := 0) (ci := 10) dL_comes_5 mt_X11_comes g_1238 g_1239 g_1240 rfl i.la.own.1 rfl rfl (Nat.le_of_ble_eq_true rfl) (Nat.le_refl _) ⟨Nat.le_refl _, Nat.le_refl _⟩ (c_comes (d := d) (Q := fun r h' => InvC h' (shS s x) ∧ FrA h h' ∧ aComes s x y = some r) (px := fun h' => InvC h' (shS s x) ∧ FrA h h' ∧ aComes s x y = none) i ok hw (fun h' r a b c => ⟨a, b, c⟩) (fun h' a b c => ⟨a, b, c⟩)) rfl (by decide) dL_comes_13 (show 4 < 5 by decide) (fun r h' q => ?_) (fun h' q => ?_)
  · obtain ⟨a, b, c⟩ := q
    refine w_i2l dL_comes_8 ?_
    refine w_last (n := 1) dL_comes_9 (a.la.k (by decide +kernel)) (vp_nI (k := 0) (by decide) (by decide)) ?_
    refine w_goto (tgt := 17) dL_comes_10 rfl ?_
    refine w_iconst (v := 0) dL_comes_17 rfl ?_
    exact w_ireturn dL_comes_18 rfl rfl ⟨Nat.le_refl _, Nat.le_refl _⟩ ⟨_, rfl, k h' r a b c⟩
  · obtain ⟨a, b, c⟩ := q
    refine w_iconst (v := 1) dL_comes_15 rfl ?_
    exact w_ireturn dL_comes_16 rfl rfl ⟨Nat.le_refl _, Nat.le_refl _⟩ ⟨_, rfl, kx h' a b c⟩
theorem g_1310 : (Jvm.Cond.methodLink "RaisedQueueLaw" (15 : Nat) ({ cls := "RaisedQueue", name := "away", desc := "(II)I" } : Jvm.MethodName)) ∈ gw := List.mem_filter.mpr ⟨List.mem_of_getElem? (i := 1310) (by decide +kernel), by decide +kernel⟩
theorem g_1311 : (Jvm.Cond.instanceMethod ({ cls := "RaisedQueue", name := "away", desc := "(II)I" } : Jvm.MethodName)) ∈ gw := List.mem_filter.mpr ⟨List.mem_of_getElem? (i := 1311) (by decide +kernel), by decide +kernel⟩
theorem g_1312 : (Jvm.Cond.selects "RaisedQueue" ({ cls := "RaisedQueue", name := "away", desc := "(II)I" } : Jvm.MethodName) ({ cls := "RaisedQueue", name := "away", desc := "(II)I" } : Jvm.MethodName)) ∈ gw := List.mem_filter.mpr ⟨List.mem_of_getElem? (i := 1312) (by decide +kernel), by decide +kernel⟩
theorem l_away {x y : Int32} {Q : Int32 → pm_H → Prop} (i : InvC h s) (ok : okSta s w) (hw : w ≤ 1000) (k : ∀ h' r, InvC h' (shS s x) → FrA h h' → aAway s x y = some r → Q 0 (sl h' 463 0 r.toInt64)) (kx : ∀ h', InvC h' (shS s x) → FrA h h' → aAway s x y = none → Q 1 h') : ct' G (d + 7) m_L_away [(0, 10, 13, 13)] [.ref 0, .int x, .int y, .ref 463] h Q := by
  refine ct'_wp rfl (Nat.le_of_ble_eq_true rfl) rfl ?_
  refine wt_aload_n dL_away_0 rfl ?_
  refine wt_iconst (v := 0) dL_away_1 rfl ?_
  refine wt_aload_n dL_away_2 rfl ?_
  refine wt_iload_n dL_away_3 rfl ?_
  refine wt_iload_n dL_away_4 rfl ?_
  refine wt_callX (As := [.int x, .int y]) (st := [.int 0, .ref 463]) (b := 0) (ci := 10) dL_away_5 mt_X11_away g_1310 g_1311 g_1312 rfl i.la.own.1 rfl rfl (Nat.le_of_ble_eq_true rfl) (Nat.le_refl _) ⟨Nat.le_refl _, Nat.le_refl _⟩ (c_away (d := d) (Q := fun r h' => InvC h' (shS s x) ∧ FrA h h' ∧ aAway s x y = some r) (px := fun h' => InvC h' (shS s x) ∧ FrA h h' ∧ aAway s x y = none) i ok hw (fun h' r a b c => ⟨a, b, c⟩) (fun h' a b c => ⟨a, b, c⟩)) rfl (by decide) dL_away_13 (show 4 < 5 by decide) (fun r h' q => ?_) (fun h' q => ?_)
  · obtain ⟨a, b, c⟩ := q
    refine w_i2l dL_away_8 ?_
    refine w_last (n := 1) dL_away_9 (a.la.k (by decide +kernel)) (vp_nI (k := 0) (by decide) (by decide)) ?_
    refine w_goto (tgt := 17) dL_away_10 rfl ?_
    refine w_iconst (v := 0) dL_away_17 rfl ?_
    exact w_ireturn dL_away_18 rfl rfl ⟨Nat.le_refl _, Nat.le_refl _⟩ ⟨_, rfl, k h' r a b c⟩
  · obtain ⟨a, b, c⟩ := q
    refine w_iconst (v := 1) dL_away_15 rfl ?_
    exact w_ireturn dL_away_16 rfl rfl ⟨Nat.le_refl _, Nat.le_refl _⟩ ⟨_, rfl, kx h' a b c⟩
end LTR
