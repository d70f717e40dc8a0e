/-! JOIN and PUT, as the class does them -/
/-- only the Forest's rows have changed (and the law's stack) -/
def FX (M M' : Nat → Nat → Int32) (f : Nat) : Prop := ∀ b, (∀ q, 1 ≤ q ∧ q ≤ 15 → b ≠ f + 2 * q) → b ≠ 21 → M' b = M b
theorem FX.rfl' {M : Nat → Nat → Int32} {f : Nat} : FX M M f := fun _ _ _ => rfl
theorem FX.trans {M M1 M2 : Nat → Nat → Int32} {f : Nat} (h1 : FX M M1 f) (h2 : FX M1 M2 f) : FX M M2 f := fun b q z => (h2 b q z).trans (h1 b q z)
theorem FJ.fx {M M' : Nat → Nat → Int32} {f : Nat} (h : FJ M M' f) : FX M M' f := fun b q z => h b (fun x hx => q x ⟨hx.1, by omega⟩) z
theorem FX.u {M : Nat → Nat → Int32} {f q j : Nat} {v : Int32} (hq : 1 ≤ q ∧ q ≤ 15) : FX M (pm_u M (f + 2 * q) j v) f := fun b h _ => pm_u_ne _ _ _ (h q hq)
theorem FX.law {M M' : Nat → Nat → Int32} {f b : Nat} (h : FX M M' f) (hf : 30 ≤ f) (hb : b = 3 ∨ b = 17 ∨ b = 19) : M' b = M b := h b (fun q _ => by omega) (by omega)
/-- what the law answers, whatever the Forest does -/
def TVc (G : pm_G) (d : Nat) (h : pm_H) (tvf : Int32 → Nat → Int32 → Int32) : Prop := ∀ (M' : Nat → Nat → Int32) (al : Int32) (rk : Nat) (tg : Int32) (Q' : Int32 → pm_H → Prop), (∀ b, b = 3 ∨ b = 17 ∨ b = 19 → M' b = gi h b) → (∀ z, Q' (tvf al rk tg) (sm h (rz M' z))) → ci G (d + 4) m_X1_targetFor [.ref 17, .int (nI rk), .int tg, .int (gi h 3 8), .int al] (sm h M') Q'
theorem TVc.sm {G : pm_G} {d : Nat} {h : pm_H} {tvf : Int32 → Nat → Int32 → Int32} {M : Nat → Nat → Int32} (t : TVc G d h tvf) (hM : ∀ b, b = 3 ∨ b = 17 ∨ b = 19 → M b = gi h b) : TVc G d (sm h M) tvf := fun M' al rk tg Q' h1 h2 => by
  have := t M' al rk tg Q' (fun b hb => (h1 b hb).trans (hM b hb)) h2
  rw [← hM 3 (Or.inl rfl)] at this
  exact this
theorem NC.rk {M : Nat → Nat → Int32} {f : Nat} {p : Int32} {T : Tr} (h : NC M f p T) (hl : isL T = false) : rd (M (f + 2)) 24 (tr_no T) = nI (tr_rk T) := by
  cases T with
  | leaf => cases hl
  | inner z k u l r =>
    obtain ⟨⟨h0, h1, -⟩, -, -⟩ := h
    simp only [tr_no, tr_rk]
    rw [rd_in h0 (by decide)]
    exact h1
section PUT
variable {G : pm_G} {d : Nat} {h : pm_H} {f : Nat}
theorem s_join {Q : pm_H → Prop} {tvf : Int32 → Nat → Int32 → Int32} {a w : Nat} {hs : Hs} {T : Tr} {hp : Nat → Int32} (hF : Fa h f) (hL : Lw h) (hf : 30 ≤ f) (ha : a < 3) (hw : w ≤ 1000) (hpos : ∀ al r t, 0 < tvf al r t) (hTV : TVc G d h tvf)
    (hwf : wf hs T w) (hRC : RC (gi h) f hs T) (hT : isL T = false) (hhp : ∀ t, t < 20 → gi h (f + 26) t = hp t)
    (k : ∀ M', RC M' f (joinF (kLt (gf h 16)) (tvf (hcount hp a)) (24 - tr_rk T) hs T a (tr_rk T)) .leaf → FJ (gi h) M' f → Q (sm h M')) : cv G (d + 5) m_X0_join [.ref f, .int (tr_no T), .int (nI a)] h Q := by
  have hr9 := hwf.rk hT hw
  refine cv_wp rfl (Nat.le_of_ble_eq_true rfl) rfl (x_X0_join ⟨hF.1, s_itemsIn (d := d + 2) hF ⟨hF.1, f_at1 hF ?_⟩⟩)
  rw [hRC.2.1.rk hT]
  have e : nI (cnt (fun t => decide (gi h (f + 26) t = nI a)) 20) = hcount hp a := by
    unfold hcount
    rw [cnt_congr fun j hj => by rw [hhp j hj]]
  rw [e]
  refine s_joinL (h0 := h) rfl hF hL hf ha hw (hpos (hcount hp a)) (fun M' rk tg Q' hM hz => hTV M' _ rk tg Q' (fun b hb => hM.fx.law hf hb) hz) (24 - tr_rk T) (tr_rk T) hs T (gi h) (by omega) hwf hRC hT rfl FJ.rfl' (fun M' r1 _ r3 => k M' r1 r3)
/-- PUT -/
theorem s_putIn {Q : Int32 → pm_H → Prop} {tvf : Int32 → Nat → Int32 → Int32} {a w t : Nat} {A : AF} (hF : Fa h f) (hL : Lw h) (hf : 30 ≤ f) (ha : a < 3) (ht : t < 20) (hw : w + 1 ≤ 1000) (hpos : ∀ al r t, 0 < tvf al r t) (hTV : TVc G d h tvf) (hA : okA A w) (hC : CF (gi h) f A)
    (k0 : ¬ A.2.1 t = -1 → Q 0 h) (k1 : A.2.1 t = -1 → ∀ M', CF M' f (putA (kLt (gf h 16)) tvf A t a) → FX (gi h) M' f → Q 1 (sm h M')) : ci G (d + 6) m_X0_putIn [.ref f, .int (nI t), .int (nI a)] h Q := by
  refine ci_wp rfl (Nat.le_of_ble_eq_true rfl) rfl (x_X0_putIn ⟨hF.1, f_at13 hF ?_⟩)
  rw [rd_in ht (by decide), (hC.2 t ht).1]
  split
  next c =>
    refine ⟨hF.1, f_set14 hF ⟨hF.1, f_set15 (f := f) hF ⟨hF.1, f_set13 (f := f) hF ?_⟩⟩⟩
    dsimp only [gi, sm]
    simp only [wr_in ht (show (20 : Nat) < 2 ^ 31 by decide)]
    obtain ⟨w1, x1, x2, x3⟩ := wf_leaf hA.1 ht (hA.free ht c)
    have hlive := hC.1.live hA.1 (by omega)
    rw [show tr_ids .leaf = [] from rfl, List.append_nil] at hlive
    have hfree := hC.1.2.2.1
    rw [show tr_ids .leaf = [] from rfl, List.append_nil] at hfree
    have hitf := hC.1.2.2.2
    rw [show tr_its .leaf = [] from rfl, List.append_nil] at hitf
    have k1 := k1 c
    have hta := hA.free ht c
    unfold putA at k1
    generalize hx : lfree (aids A.1 ++ []) = x at *
    have fx1 : FX (gi h) (pm_u (pm_u (pm_u h.2.1 (f + 28) t (-1)) (f + 30) t (-1)) (f + 26) t (nI a)) f := ((FX.u (q := 14) (by decide)).trans (FX.u (q := 15) (by decide))).trans (FX.u (q := 13) (by decide))
    have r1 : ∀ q, 1 ≤ q ∧ q ≤ 12 → (pm_u (pm_u (pm_u h.2.1 (f + 28) t (-1)) (f + 30) t (-1)) (f + 26) t (nI a)) (f + 2 * q) = gi h (f + 2 * q) := fun q hq => by
      rw [pm_u_ne _ _ _ (by omega), pm_u_ne _ _ _ (by omega), pm_u_ne _ _ _ (by omega)]
    have r13 : ∀ u, u < 20 → (pm_u (pm_u (pm_u h.2.1 (f + 28) t (-1)) (f + 30) t (-1)) (f + 26) t (nI a)) (f + 26) u = up1 A.2.1 t (nI a) u ∧ (pm_u (pm_u (pm_u h.2.1 (f + 28) t (-1)) (f + 30) t (-1)) (f + 26) t (nI a)) (f + 28) u = up1 A.2.2.1 t (-1) u ∧ (pm_u (pm_u (pm_u h.2.1 (f + 28) t (-1)) (f + 30) t (-1)) (f + 26) t (nI a)) (f + 30) u = up1 A.2.2.2 t (-1) u := fun u hu => by
      obtain ⟨z1, z2, z3⟩ := hC.2 u hu
      by_cases q : u = t
      · subst q; simp [pm_u, up1]
      · simp [pm_u, up1, q]; exact ⟨z1, z2, z3⟩
    generalize (pm_u (pm_u (pm_u h.2.1 (f + 28) t (-1)) (f + 30) t (-1)) (f + 26) t (nI a)) = M1 at fx1 r1 r13 ⊢
    refine ⟨hF.1, s_newNode (d := d + 3) (h := sm h M1) (f := f) hF x1 (by rw [show gi (sm h M1) = M1 from rfl, r1 1 (by decide)]; exact hfree x x1 x2) (fun j hj => by rw [show gi (sm h M1) = M1 from rfl, r1 1 (by decide)]; exact hlive j (x3 j hj)) (fun M2 v2 v4 v8 v12 v18 v7 fr2 => ?_)⟩
    refine ⟨hF.1, f_set3 (f := f) hF ⟨hF.1, f_set4 (f := f) hF ⟨hF.1, f_set5 (f := f) hF ⟨hF.1, f_set6 (f := f) hF ⟨hF.1, f_set11 (f := f) hF ⟨hF.1, f_set12 (f := f) hF ?_⟩⟩⟩⟩⟩⟩
    dsimp only [gi, sm]
    simp only [wr_in ht (show (20 : Nat) < 2 ^ 31 by decide), wr_in x1 (show (24 : Nat) < 2 ^ 31 by decide)]
    have fr3 : Fr M2 (pm_u (pm_u (pm_u (pm_u (pm_u (pm_u M2 (f + 6) x (nI t)) (f + 8) x (nI t)) (f + 10) x (nI t)) (f + 12) x 1) (f + 22) t (-1)) (f + 24) t (nI x)) f [x] [t] :=
      (((((Fr.u (q := 3) (by decide) (by simp)).trans (Fr.u (q := 4) (by decide) (by simp))).trans (Fr.u (q := 5) (by decide) (by simp))).trans (Fr.u (q := 6) (by decide) (by simp))).trans (Fr.ui (Or.inl rfl) (by simp))).trans (Fr.ui (Or.inr rfl) (by simp))
    have nn : NN (pm_u (pm_u (pm_u (pm_u (pm_u (pm_u M2 (f + 6) x (nI t)) (f + 8) x (nI t)) (f + 10) x (nI t)) (f + 12) x 1) (f + 22) t (-1)) (f + 24) t (nI x)) f (-1) (x, 0, 1, t, [t]) (-1) (-1) := by
      obtain ⟨v7, v77⟩ := v7
      refine ⟨x1, ?_, ?_, fun _ => ?_, ?_, fun _ => ?_, ?_, ⟨?_, trivial⟩, fun u hu => ?_, ?_, ?_, ?_⟩
      · simp [pm_u]; exact v2
      · simp [pm_u]; exact v4
      · simp [pm_u]
      · simp [pm_u, n_ls, hdI]
      · simp [pm_u, n_ls, laI]
      · simp [pm_u, n_ls]; rfl
      · simp [pm_u, hdI]
      · have : u = t := by simpa [n_ls] using hu
        subst this
        exact ⟨by simp [pm_u], ht⟩
      · simp [pm_u]; exact v7
      · simp [pm_u]; exact v77
      · simp [pm_u]; exact v18
    generalize (pm_u (pm_u (pm_u (pm_u (pm_u (pm_u M2 (f + 6) x (nI t)) (f + 8) x (nI t)) (f + 10) x (nI t)) (f + 12) x 1) (f + 22) t (-1)) (f + 24) t (nI x)) = M3 at fr3 nn ⊢
    have fr : Fr M1 M3 f [x] [t] := (fr2.mono (fun _ q => q) (fun _ q => by cases q)).trans fr3
    have fx3 : FX (gi h) M3 f := fx1.trans fr.fj.fx
    have hop : ∀ b, b = 13 ∨ b = 14 ∨ b = 15 → M3 (f + 2 * b) = M1 (f + 2 * b) := fun b hb => fr.other (fun q hq => by omega) (by omega) (by omega)
    refine ⟨hF.1, ?_⟩
    refine s_join (h := sm h M3) (hs := A.1) (T := tn (x, 0, 1, t, [t]) .leaf .leaf) (w := w + 1) (hp := up1 A.2.1 t (nI a)) hF hL hf ha hw hpos (hTV.sm fun b hb => fx3.law hf hb) w1 ⟨fun q hq => ⟨?_, ?_⟩, ⟨nn, trivial, trivial⟩, fun j hj hj2 => ?_, fun u hu hu2 => ?_⟩ rfl (fun u hu => ?_) (fun M4 rc fj => ?_)
    · refine fr.nc ((hC.1.1 q hq).1.rows fun q' hq' _ => r1 q' hq') (fun i hi q2 => ?_) (fun i hi q2 => ?_)
      · rw [List.mem_singleton] at q2; exact x2 (aids_mem.mpr ⟨q, hq, q2 ▸ hi⟩)
      · rw [List.mem_singleton] at q2; exact hta (aits_mem.mpr ⟨q, hq, q2 ▸ hi⟩)
    · show M3 (f + 20) q = _
      rw [fr.other (fun q hq => by omega) (by omega) (by omega), r1 10 (by decide)]
      exact (hC.1.1 q hq).2
    · have hjx : j ∉ [x] := fun q => hj2 (List.mem_append_right _ (by rw [List.mem_singleton] at q; rw [q]; exact List.mem_cons_self))
      show M3 (f + 2) j = -1
      rw [fr.node (q := 1) (by decide) hjx, r1 1 (by decide)]
      exact hfree j hj (fun q => hj2 (List.mem_append_left _ q))
    · have hut : u ∉ [t] := fun q => hu2 (List.mem_append_right _ (by rw [List.mem_singleton] at q; rw [q]; simp [tr_its, n_ls]))
      show M3 (f + 24) u = -1
      rw [fr.item (Or.inr rfl) hut, r1 12 (by decide)]
      exact hitf u hu (fun q => hu2 (List.mem_append_left _ q))
    · show M3 (f + 2 * 13) u = _
      rw [hop 13 (Or.inl rfl)]
      exact (r13 u hu).1
    · refine ⟨_, rfl, k1 M4 ⟨rc, fun u hu => ?_⟩ (fx3.trans fj.fx)⟩
      have e : ∀ b, b = 13 ∨ b = 14 ∨ b = 15 → M4 (f + 2 * b) = M1 (f + 2 * b) := fun b hb => (fj _ (fun q hq => by omega) (by omega)).trans (hop b hb)
      show M4 (f + 2 * 13) u = _ ∧ M4 (f + 2 * 14) u = _ ∧ M4 (f + 2 * 15) u = _
      rw [e 13 (Or.inl rfl), e 14 (Or.inr (Or.inl rfl)), e 15 (Or.inr (Or.inr rfl))]
      exact r13 u hu
  next c => exact ⟨_, rfl, k0 c⟩
end PUT
