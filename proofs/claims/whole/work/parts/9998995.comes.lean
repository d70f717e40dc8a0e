/-! comes, away: the class -/
def cx (G : pm_G) (d : Nat) (mi : pm_I) (av : List Value) (h : pm_H) (Q : Int32 → pm_H → Prop) (px : pm_H → Prop) : Prop :=
  (∀ v ∈ av, pm_ok h.1.length v) → ∀ (ad : pm_AD), vx_Met (gl G) mi.1 (pm_wsO mi) (pm_rm d 1 6) (va_Pc (av.map (pm_vm ad)) (fun U => pm_S G ad h U.heap ∧ pm_T G U U.heap)) (pm_Q G ad h.1.length (fun v h1 => ∃ r, v = some (.int r) ∧ Q r h1)) (pm_XC G ad h.1.length px) 1 6 (pm_A G)
theorem cx_wp {G : pm_G} {d : Nat} {h : pm_H} {mi : pm_I} {av l : List Value} {Q : Int32 → pm_H → Prop} {px : pm_H → Prop} (hy : plainName mi.1.cls = true) (hn : (pm_ent av).length ≤ mi.2.2.1) (hl : pm_ent0 av mi.2.2.1 = l) (w : WpX G px (mi, d, 1, 6, fun v h1 => ∃ r, v = some (.int r) ∧ Q r h1) (0, 0) 0 l [] h) : cx G d mi av h Q px := by
  subst hl
  intro hok ad
  refine vx_ofW (cc := mi.2.1) (maxL := mi.2.2.1) (ret := mi.2.2.2) hy rfl ?_
  intro p e s m args below meth c s₁ B hml hxt hv
  obtain ⟨rfl, hS, hT⟩ := hv
  have hts := atoms_spec (ws := pm_wsO mi) B.pre
  have hown : s.vm.findClass mi.1.cls = some m.cls := findClass_of_methodNamed B.named
  rw [lg_entry_eq]
  exact w ad h.1.length ad p e s m _ below meth c s.heap _ [] ⟨B.exec, B.bytes, hml, hown, fun w hw => hts w (List.mem_cons_of_mem _ hw), B.returns, B.notSynchronized, (name_of_methodNamed B.named B.method).1, hT⟩ hxt (Nat.le_refl _) (fun _ _ => rfl) hS va_S.rf (pm_ent_L ad av hn) (pm_ent_ok hok) (fun v hv => by cases hv)
section CXC
variable {G : pm_G} {d : Nat} {h : pm_H} {s : Sta} {w : Nat}
theorem c_comes {x y : Int32} {Q : Int32 → pm_H → Prop} {px : pm_H → Prop} (i : InvC h s) (ok : okSta s w) (hw : w ≤ 1000) (k : ∀ h' r, InvC h' (shS s x) → FrA h h' → aComes s x y = some r → Q r h') (kx : ∀ h', InvC h' (shS s x) → FrA h h' → aComes s x y = none → px h') : cx G (d + 6) m_X11_comes [.ref 0, .int x, .int y] h Q px := by
  have n3 := ok.n3
  unfold aComes at k kx
  obtain ⟨o1, -⟩ := i.la.own
  refine cx_wp rfl (Nat.le_of_ble_eq_true rfl) rfl (x_X11_comes (d := d) ⟨o1, c_shutHeap (d := d + 3) i ok.pl (fun c => ?_) (fun c h1 _ i1 f1 => ?_)⟩)
  · rw [if_pos rfl]
    exact kx h (by rw [show shS s x = s from if_neg (by rw [c]; decide)]; exact i) FrA.rfl' (by rw [c, if_neg (by decide)])
  · rw [show shS s x = stN s (sN s + 1) from if_pos c] at k kx
    rw [if_neg (by decide)]
    obtain ⟨o1, o0, o_1, o_2, o3, o4, o5, o6, o7, -⟩ := i1.la.own
    obtain ⟨t0, t1, t2, t3, t4, t5, t6, t7, t8, t9⟩ := i1.la.tri
    rcases inB_or (n := pHn (sP s)) x (by omega) with c' | ⟨a, ha, rfl, c', cx⟩
    · rw [c] at c'; cases c'
    rw [if_pos c, cx] at k kx
    obtain ⟨l1, l2, l3⟩ := InvC.lens ok hw ha
    rw [o7, o6]
    refine ⟨o1, t0, c_all (d := d) i1 (okSta_stN ok) hw ha (fun M' hO i2 f2 => ?_)⟩
    have hO : Ord M' (cmL s a) := hO
    have f9 := f1.trans f2
    by_cases y0 : y < 0
    · rw [if_pos y0]
      exact kx _ i2 f9 (by rw [inB_no (Or.inl y0) (by omega), if_neg (by decide)])
    · rw [if_neg y0, show gp (sm h1 M') 0 7 = 90 from o7, show gp (sm h1 M') 90 2 = 91 from t3]
      refine ⟨o1, t0, ?_⟩
      rw [show gi (sm h1 M') 90 3 = nI (cmL s a).length from hO.1]
      by_cases y1 : nI (cmL s a).length ≤ y
      · rw [if_pos y1]
        exact kx _ i2 f9 (by rw [inB_no (Or.inr y1) (by omega), if_neg (by decide)])
      · rw [if_neg y1]
        rcases inB_or (n := (cmL s a).length) y (by omega) with c2 | ⟨b, hb, rfl, c2, cy⟩
        · rw [inB_lt y0 y1 (by omega)] at c2; cases c2
        rw [if_pos c2, cy] at k
        refine ⟨t6.1, row_at (d := d + 4) (h := sm h1 M') t6 ?_⟩
        rw [show rd (gi (sm h1 M') 92) 20 (nI b) = M' 92 b from rd_in (by omega) (by decide), hO.2.1 b hb]
        exact ⟨_, rfl, k _ _ i2 f9 rfl⟩
end CXC
