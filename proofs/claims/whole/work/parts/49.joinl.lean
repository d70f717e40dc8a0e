/-! JOIN's loop -/
/-- only TREES, ROOTS, LISTS have changed (and the law's stack) -/
def FJ (M M' : Nat → Nat → Int32) (f : Nat) : Prop := ∀ b, (∀ q, 1 ≤ q ∧ q ≤ 12 → b ≠ f + 2 * q) → b ≠ 21 → M' b = M b
def rz (M : Nat → Nat → Int32) (z : Nat → Int32) : Nat → Nat → Int32 := fun b => if b = 21 then z else M b
theorem FJ.rfl' {M : Nat → Nat → Int32} {f : Nat} : FJ M M f := fun _ _ _ => rfl
theorem FJ.trans {M M1 M2 : Nat → Nat → Int32} {f : Nat} (h1 : FJ M M1 f) (h2 : FJ M1 M2 f) : FJ M M2 f := fun b q z => (h2 b q z).trans (h1 b q z)
theorem Fr.fj {M M' : Nat → Nat → Int32} {f : Nat} {ids its : List Nat} (h : Fr M M' f ids its) : FJ M M' f := fun b q _ => h.other (fun x hx => q x ⟨hx.1, by omega⟩) (q 11 (by decide)) (q 12 (by decide))
theorem FJ.u {M : Nat → Nat → Int32} {f q j : Nat} {v : Int32} (hq : 1 ≤ q ∧ q ≤ 12) : FJ M (pm_u M (f + 2 * q) j v) f := fun b h _ => pm_u_ne _ _ _ (h q hq)
theorem FJ.z {M : Nat → Nat → Int32} {f : Nat} {z : Nat → Int32} : FJ M (rz M z) f := fun b _ h => by unfold rz; rw [if_neg h]
theorem rz_ne {M : Nat → Nat → Int32} {z : Nat → Int32} {b : Nat} (h : b ≠ 21) : rz M z b = M b := by unfold rz; rw [if_neg h]
theorem NC.rows {M M' : Nat → Nat → Int32} {f : Nat} {p : Int32} {T : Tr} (h : NC M f p T) (hq : ∀ q, 1 ≤ q ∧ q ≤ 12 → q ≠ 10 → M' (f + 2 * q) = M (f + 2 * q)) : NC M' f p T := by
  refine h.congr ⟨fun i _ => ⟨?_, ?_, ?_, ?_, ?_, ?_, ?_, ?_, ?_⟩, fun t _ => ⟨?_, ?_⟩⟩
  · exact congrFun (hq 1 (by decide) (by decide)) i
  · exact congrFun (hq 2 (by decide) (by decide)) i
  · exact congrFun (hq 3 (by decide) (by decide)) i
  · exact congrFun (hq 4 (by decide) (by decide)) i
  · exact congrFun (hq 5 (by decide) (by decide)) i
  · exact congrFun (hq 6 (by decide) (by decide)) i
  · exact congrFun (hq 7 (by decide) (by decide)) i
  · exact congrFun (hq 8 (by decide) (by decide)) i
  · exact congrFun (hq 9 (by decide) (by decide)) i
  · exact congrFun (hq 11 (by decide) (by decide)) t
  · exact congrFun (hq 12 (by decide) (by decide)) t
theorem NC.tg {M : Nat → Nat → Int32} {f : Nat} {p : Int32} {T : Tr} (h : NC M f p T) (hl : isL T = false) : rd (M (f + 4)) 24 (tr_no T) = tr_tg T := by
  cases T with
  | leaf => cases hl
  | inner z k u l r =>
    obtain ⟨⟨h0, h1, h2, -⟩, -, -⟩ := h
    simp only [tr_no, tr_tg]
    rw [rd_in h0 (by decide)]
    exact h2
/-- the law's place -/
def Lw (h : pm_H) : Prop := Pk h ∧ gp h 3 7 = 17 ∧ h.1[17]? = some (0, 1)
section JNL
variable {G : pm_G} {d : Nat} {f : Nat}
theorem s_slot {h : pm_H} {a r : Nat} {Q : Int32 → pm_H → Prop} (ha : a < 1000) (hr : r < 24) (w : Q (nI (24 * a + r)) h) : ci G (d + 1) m_X0_slot [.int (nI a), .int (nI r)] h Q := by
  refine ci_wp rfl (Nat.le_of_ble_eq_true rfl) rfl (x_X0_slot ?_)
  rw [if_neg (nI_pos (by omega)), if_neg (nI_pos (by omega)), if_pos]
  · refine ⟨_, rfl, ?_⟩
    have e : nI a * 24 + nI r = nI (24 * a + r) := by
      rw [show (24 : Int32) = nI 24 from rfl, pk_mul, nI_add, Nat.mul_comm]
    rw [e]; exact w
  · rw [i_lt, nI_toInt (by omega)]
    have : (24 : Int32).toInt = 24 := rfl
    omega
theorem s_joinL {h0 : pm_H} {Q : pm_H → Prop} {lt : Nat → Nat → Bool} {tv : Nat → Int32 → Int32} {a w : Nat} {al : Int32} (hlt : lt = kLt (gf h0 16)) (hF : Fa h0 f) (hL : Lw h0) (hf : 30 ≤ f) (ha : a < 3) (hw : w ≤ 1000) (hpos : ∀ r t, 0 < tv r t)
    (hTv : ∀ (M' : Nat → Nat → Int32) (rk : Nat) (tg : Int32) (Q' : Int32 → pm_H → Prop), FJ (gi h0) M' f → (∀ z, Q' (tv rk tg) (sm h0 (rz M' z))) → ci G (d + 4) m_X1_targetFor [.ref 17, .int (nI rk), .int tg, .int (gi h0 3 8), .int al] (sm h0 M') Q') :
    ∀ (n r : Nat) (hs : Hs) (T : Tr) (M : Nat → Nat → Int32), r + n = 24 → wf hs T w → RC M f hs T → isL T = false → tr_rk T = r → FJ (gi h0) M f →
      (∀ M', RC M' f (joinF lt tv n hs T a r) .leaf → wf (joinF lt tv n hs T a r) .leaf w → FJ (gi h0) M' f → Q (sm h0 M')) →
      Wp G (m_X0_join, d + 5, 0, 0, fun v h1 => v = none ∧ Q h1) (0, 0) 19 [.ref f, .null, .int (nI a), .int (tr_no T), .int al, .int (nI r), .null, .null, .null] [] (sm h0 M)
  | 0, r, hs, T, M, hn, hwf, _, hT, hr, _, _ => by
    have := hwf.rk hT hw
    omega
  | n + 1, r, hs, T, M, hn, hwf, hRC, hT, hr, hFJ, k => by
    have hr9 : r ≤ 9 := hr ▸ hwf.rk hT hw
    have hq : 24 * a + r < 72 := by omega
    have hFm : ∀ M, Fa (sm h0 M) f := fun M => hF
    have hPm : ∀ M, Pk (sm h0 M) := fun M => hL.1
    refine x_X0_join_19 ?_
    rw [if_neg (li_no 24 24 rfl (by omega) (by decide))]
    refine ⟨hF.1, s_slot (by omega) (by omega) ?_⟩
    refine f_at10 (hFm M) ?_
    rw [rd_in hq (by decide), show gi (sm h0 M) (f + 20) (24 * a + r) = tr_no (hs (24 * a + r)) from (hRC.1 _ hq).2]
    have hm1 := tr_no_m1 (hRC.1 _ hq).1
    by_cases hX : isL (hs (24 * a + r)) = true
    · rw [if_pos (hm1.mpr hX)]
      refine ⟨hF.1, s_slot (by omega) (by omega) ?_⟩
      refine f_set10 (hFm M) ?_
      rw [wr_in hq (by decide)]
      have e : joinF lt tv (n + 1) hs T a r = up1 hs (24 * a + r) T := by rw [joinF, if_pos hX]
      rw [e] at k
      have hl := isL_leaf hX
      have pi := aids_up (hs := hs) (q := 24 * a + r) T hq
      have pt := aits_up (hs := hs) (q := 24 * a + r) T hq
      rw [hl] at pi pt
      refine ⟨rfl, k _ ⟨fun q hq2 => ⟨?_, ?_⟩, trivial, fun j hj hn2 => ?_, fun t ht hn3 => ?_⟩ (wf_put hwf hr hq (by omega) hX) (hFJ.trans (FJ.u (q := 10) (by decide)))⟩
      · have hrow : ∀ q', 1 ≤ q' ∧ q' ≤ 12 → q' ≠ 10 → pm_u M (f + 20) (24 * a + r) (tr_no T) (f + 2 * q') = M (f + 2 * q') := fun q' _ h10 => pm_u_ne _ _ _ (by omega)
        by_cases z : q = 24 * a + r
        · rw [z, up1_at]; exact hRC.2.1.rows hrow
        · rw [up1_ne hs _ z]; exact (hRC.1 q hq2).1.rows hrow
      · show pm_u M (f + 20) (24 * a + r) (tr_no T) (f + 20) q = _
        by_cases z : q = 24 * a + r
        · rw [z, up1_at]; simp [pm_u]
        · rw [up1_ne hs _ z]; simp [pm_u, z]; exact (hRC.1 q hq2).2
      · rw [show pm_u (gi (sm h0 M)) (f + 20) (24 * a + r) (tr_no T) (f + 2) = M (f + 2) from pm_u_ne _ _ _ (by omega)]
        refine hRC.2.2.1 j hj fun q => hn2 ?_
        exact List.mem_append_left _ ((pi.trans List.perm_append_comm).mem_iff.mpr q |> fun y => by simpa [tr_ids] using y)
      · rw [show pm_u (gi (sm h0 M)) (f + 20) (24 * a + r) (tr_no T) (f + 24) = M (f + 24) from pm_u_ne _ _ _ (by omega)]
        refine hRC.2.2.2 t ht fun q => hn3 ?_
        exact List.mem_append_left _ ((pt.trans List.perm_append_comm).mem_iff.mpr q |> fun y => by simpa [tr_its] using y)
    · have hX' : isL (hs (24 * a + r)) = false := by simpa using hX
      rw [if_neg (fun q => hX (hm1.mp q))]
      refine ⟨hF.1, s_slot (by omega) (by omega) ?_⟩
      refine f_set10 (hFm M) ?_
      rw [wr_in hq (by decide)]
      dsimp only [gi, sm]
      have fj1 : FJ M (pm_u M (f + 20) (24 * a + r) (-1)) f := FJ.u (q := 10) (by decide)
      have row1 : ∀ q', q' ≠ 10 → pm_u M (f + 20) (24 * a + r) (-1) (f + 2 * q') = M (f + 2 * q') := fun q' h10 => pm_u_ne _ _ _ (by omega)
      have row10 : ∀ q', pm_u M (f + 20) (24 * a + r) (-1) (f + 20) q' = if q' = 24 * a + r then -1 else M (f + 20) q' := fun q' => by simp [pm_u]
      generalize pm_u M (f + 20) (24 * a + r) (-1) = M1 at fj1 row1 row10 ⊢
      have cX := (hRC.1 _ hq).1.rows (M' := M1) (fun q' _ h10 => row1 q' h10)
      have cT := hRC.2.1.rows (M' := M1) (fun q' _ h10 => row1 q' h10)
      refine ⟨hF.1, f_at2 (hFm M1) ?_⟩
      rw [cX.tg hX']
      refine ⟨hF.1, f_at2 (hFm M1) ?_⟩
      rw [cT.tg hT]
      refine j_max ?_
      have g0 : gp (h0.1, M1, h0.2.2) f 0 = 3 := hF.2.1
      have g7 : gp (h0.1, M1, h0.2.2) 3 7 = 17 := hL.2.1
      rw [g0, g7, nI_1]
      have hFJ1 := hFJ.trans fj1
      have g8 : (sm h0 M1).2.1 3 8 = gi h0 3 8 := congrFun (hFJ1 3 (fun q _ => by omega) (by decide)) 8
      refine ⟨hF.1, hL.1.1, hL.2.2, ?_⟩
      rw [g8]
      refine hTv M1 (r + 1) _ _ hFJ1 (fun z => ?_)
      obtain ⟨y1, y2, y3, y4, y5, y6, y7, y8, k', l', r', m, y9, y10, y11, y12, y13, y14, y15, y16⟩ := wf_join (lt := lt) (tg := tv (r + 1) (mx (tr_tg (hs (24 * a + r))) (tr_tg T))) hwf hT hr hw ha hX' (hpos _ _)
      have eJ : joinF lt tv (n + 1) hs T a r = joinF lt tv n (up1 hs (24 * a + r) .leaf) (tn k' l' r') a (r + 1) := by rw [joinF, if_neg hX, y10]
      rw [eJ] at k
      have hfree := hRC.2.2.1 _ y2 y3
      have hlive : ∀ j, j < lfree (aids hs ++ tr_ids T) → M (f + 2) j ≠ -1 := fun j hj => hRC.live hwf hw j (y4 j hj)
      rw [show (if tr_tg (hs (24 * a + r)) < tr_tg T then tr_tg T else tr_tg (hs (24 * a + r))) = mx (tr_tg (hs (24 * a + r))) (tr_tg T) from rfl]
      have hi4 := hwf.2.2.2.1
      have hnd := hwf.1
      have pi := aids_up (hs := hs) (q := 24 * a + r) .leaf hq
      have pt := aits_up (hs := hs) (q := 24 * a + r) .leaf hq
      have hnt := hwf.2.1
      generalize hj : lfree (aids hs ++ tr_ids T) = x at *
      generalize htg : tv (r + 1) (mx (tr_tg (hs (24 * a + r))) (tr_tg T)) = tg at *
      obtain ⟨xw, xr, xk⟩ := hwf.2.2.2.2.1 _ hq
      obtain ⟨tw, tr, -⟩ := hwf.2.2.2.2.2
      obtain ⟨-, -, -, g4, -⟩ := siftF_spec 400 _ _ _ _ _ _ _ y9 xw tw y5 (by show 0 < tg; rw [← htg]; exact hpos _ _) y8 (Or.inl rfl)
      have hother : ∀ q', q' < 72 → q' ≠ 24 * a + r → (∀ j ∈ tr_ids (hs q'), j ∉ tr_ids (tn (x, r + 1, tg, 0, []) (hs (24 * a + r)) T)) ∧ (∀ j ∈ tr_its (hs q'), j ∉ tr_its (tn (x, r + 1, tg, 0, []) (hs (24 * a + r)) T)) := by
        intro q' hq' hne
        have n1 : (aids (up1 hs (24 * a + r) .leaf) ++ (tr_ids (hs (24 * a + r)) ++ tr_ids T)).Nodup := by
          rw [← List.append_assoc]
          exact (List.Perm.append_right _ pi).nodup_iff.mpr hnd
        have n2 : (aits (up1 hs (24 * a + r) .leaf) ++ (tr_its (hs (24 * a + r)) ++ tr_its T)).Nodup := by
          rw [← List.append_assoc]
          exact (List.Perm.append_right _ pt).nodup_iff.mpr hnt
        refine ⟨fun j hj1 hj2 => ?_, fun j hj1 hj2 => ?_⟩
        · rcases List.mem_cons.mp hj2 with z1 | z1
          · exact y3 (List.mem_append_left _ (aids_mem.mpr ⟨q', hq', by have z2 : j = x := z1; rw [← z2]; exact hj1⟩))
          · exact (List.nodup_append.mp n1).2.2 j (aids_mem.mpr ⟨q', hq', by rw [up1_ne hs _ hne]; exact hj1⟩) j z1 rfl
        · exact (List.nodup_append.mp n2).2.2 j (aits_mem.mpr ⟨q', hq', by rw [up1_ne hs _ hne]; exact hj1⟩) j hj2 rfl
      obtain ⟨hjX, hXT⟩ := List.nodup_cons.mp (show (x :: (tr_ids (hs (24 * a + r)) ++ tr_ids T)).Nodup from y5)
      obtain ⟨nX, nT, dXT⟩ := List.nodup_append.mp hXT
      obtain ⟨mX, mT, eXT⟩ := List.nodup_append.mp (show (tr_its (hs (24 * a + r)) ++ tr_its T).Nodup from y6)
      have rowz : ∀ q', 1 ≤ q' ∧ q' ≤ 12 → rz M1 z (f + 2 * q') = M1 (f + 2 * q') := fun q' hq' => rz_ne (by omega)
      have fj2 : FJ (gi h0) (rz M1 z) f := hFJ1.trans FJ.z
      have cX2 := cX.rows (M' := rz M1 z) (fun q' hq' _ => rowz q' hq')
      have cT2 := cT.rows (M' := rz M1 z) (fun q' hq' _ => rowz q' hq')
      have cO2 : ∀ q', q' < 72 → NC (rz M1 z) f (-1) (hs q') := fun q' hq' => ((hRC.1 q' hq').1.rows (M' := M1) (fun q _ h10 => row1 q h10)).rows (fun q hq _ => rowz q hq)
      have r10 : ∀ q', rz M1 z (f + 20) q' = if q' = 24 * a + r then -1 else M (f + 20) q' := fun q' => by
        rw [show rz M1 z (f + 20) = M1 (f + 20) from rz_ne (by omega)]; exact row10 q'
      have r2 : rz M1 z (f + 2) = M (f + 2) := (rz_ne (by omega)).trans (row1 1 (by decide))
      have r24 : rz M1 z (f + 24) = M (f + 24) := (rz_ne (by omega)).trans (row1 12 (by decide))
      generalize rz M1 z = M2 at fj2 cX2 cT2 cO2 r10 r2 r24 ⊢
      refine ⟨hF.1, s_newNode (hFm M2) y2 (by rw [show gi (sm h0 M2) = M2 from rfl, r2]; exact hfree) (fun j hj1 => by rw [show gi (sm h0 M2) = M2 from rfl, r2]; exact hlive j hj1) (fun M3 v2 v4 v8 v12 v18 _ fr3 => ?_)⟩
      have cX3 : NC M3 f (-1) (hs (24 * a + r)) := fr3.nc cX2 (fun j hj1 q => hjX (List.mem_append_left _ (by rw [List.mem_singleton] at q; exact q ▸ hj1))) (fun j _ q => by cases q)
      have cT3 : NC M3 f (-1) T := fr3.nc cT2 (fun j hj1 q => hjX (List.mem_append_right _ (by rw [List.mem_singleton] at q; exact q ▸ hj1))) (fun j _ q => by cases q)
      refine ⟨hF.1, f_set7 (hFm M3) ?_⟩
      rw [wr_in y2 (by decide)]
      refine ⟨hF.1, f_set8 (f := f) hF ?_⟩
      rw [wr_in y2 (by decide)]
      dsimp only [gi, sm]
      have fr5 : Fr M3 (pm_u (pm_u M3 (f + 14) x (tr_no (hs (24 * a + r)))) (f + 16) x (tr_no T)) f [x] [] := (Fr.u (q := 7) (by decide) (by simp)).trans (Fr.u (q := 8) (by decide) (by simp))
      have v5 : (pm_u (pm_u M3 (f + 14) x (tr_no (hs (24 * a + r)))) (f + 16) x (tr_no T)) (f + 14) x = tr_no (hs (24 * a + r)) ∧ (pm_u (pm_u M3 (f + 14) x (tr_no (hs (24 * a + r)))) (f + 16) x (tr_no T)) (f + 16) x = tr_no T ∧ (pm_u (pm_u M3 (f + 14) x (tr_no (hs (24 * a + r)))) (f + 16) x (tr_no T)) (f + 2) x = nI (r + 1) ∧ (pm_u (pm_u M3 (f + 14) x (tr_no (hs (24 * a + r)))) (f + 16) x (tr_no T)) (f + 4) x = tg ∧ (pm_u (pm_u M3 (f + 14) x (tr_no (hs (24 * a + r)))) (f + 16) x (tr_no T)) (f + 8) x = -1 ∧ (pm_u (pm_u M3 (f + 14) x (tr_no (hs (24 * a + r)))) (f + 16) x (tr_no T)) (f + 12) x = 0 ∧ (pm_u (pm_u M3 (f + 14) x (tr_no (hs (24 * a + r)))) (f + 16) x (tr_no T)) (f + 18) x = -1 := by
        refine ⟨?_, ?_, ?_, ?_, ?_, ?_, ?_⟩ <;> simp [pm_u, *]
      generalize (pm_u (pm_u M3 (f + 14) x (tr_no (hs (24 * a + r)))) (f + 16) x (tr_no T)) = M5 at fr5 v5 ⊢
      have cX5 : NC M5 f (-1) (hs (24 * a + r)) := fr5.nc cX3 (fun j hj1 q => hjX (List.mem_append_left _ (by rw [List.mem_singleton] at q; exact q ▸ hj1))) (fun j _ q => by cases q)
      have cT5 : NC M5 f (-1) T := fr5.nc cT3 (fun j hj1 q => hjX (List.mem_append_right _ (by rw [List.mem_singleton] at q; exact q ▸ hj1))) (fun j _ q => by cases q)
      obtain ⟨xX, xX1, xX2, xX3, cX6⟩ := cX5.above (v := nI x) nX hX'
      rw [xX2]
      refine ⟨hF.1, f_set9 (h := (h0.1, M5, h0.2.2)) hF ?_⟩
      rw [wr_in xX1 (by decide)]
      dsimp only [gi, sm]
      have fr6 : Fr M5 (pm_u M5 (f + 18) xX (nI x)) f [xX] [] := Fr.u (q := 9) (by decide) (by simp)
      have hxT : xX ∉ tr_ids T := fun q => dXT xX xX3 xX q rfl
      have cT6 : NC (pm_u M5 (f + 18) xX (nI x)) f (-1) T := fr6.nc cT5 (fun j hj1 q => hxT (by rw [List.mem_singleton] at q; exact q ▸ hj1)) (fun j _ q => by cases q)
      have hxX : xX ≠ x := fun q => hjX (List.mem_append_left _ (q ▸ xX3))
      obtain ⟨xT, xT1, xT2, xT3, cT7⟩ := cT6.above (v := nI x) nT hT
      rw [xT2]
      refine ⟨hF.1, f_set9 (h := (h0.1, pm_u M5 (f + 18) xX (nI x), h0.2.2)) hF ?_⟩
      rw [wr_in xT1 (by decide)]
      dsimp only [gi, sm]
      have fr7 : Fr (pm_u M5 (f + 18) xX (nI x)) (pm_u (pm_u M5 (f + 18) xX (nI x)) (f + 18) xT (nI x)) f [xT] [] := Fr.u (q := 9) (by decide) (by simp)
      have hxX2 : xT ∉ tr_ids (hs (24 * a + r)) := fun q => dXT xT q xT xT3 rfl
      have hxT2 : xT ≠ x := fun q => hjX (List.mem_append_right _ (q ▸ xT3))
      have cX7 := fr7.nc cX6 (fun j hj1 q => hxX2 (by rw [List.mem_singleton] at q; exact q ▸ hj1)) (fun j _ q => by cases q)
      have frA : Fr M2 (pm_u (pm_u M5 (f + 18) xX (nI x)) (f + 18) xT (nI x)) f (tr_ids (tn (x, r + 1, tg, 0, []) (hs (24 * a + r)) T)) (tr_its (tn (x, r + 1, tg, 0, []) (hs (24 * a + r)) T)) := by
        have s0 : ∀ j ∈ [x], j ∈ tr_ids (tn (x, r + 1, tg, 0, []) (hs (24 * a + r)) T) := fun j hj1 => by rw [List.mem_singleton] at hj1; rw [hj1]; exact List.mem_cons_self
        exact (((fr3.mono s0 (fun j q => by cases q)).trans (fr5.mono s0 (fun j q => by cases q))).trans (fr6.mono (fun j hj1 => by rw [List.mem_singleton] at hj1; rw [hj1]; exact List.mem_cons_of_mem _ (List.mem_append_left _ xX3)) (fun j q => by cases q))).trans (fr7.mono (fun j hj1 => by rw [List.mem_singleton] at hj1; rw [hj1]; exact List.mem_cons_of_mem _ (List.mem_append_right _ xT3)) (fun j q => by cases q))
      have n7 : NN (pm_u (pm_u M5 (f + 18) xX (nI x)) (f + 18) xT (nI x)) f (-1) (x, r + 1, tg, 0, []) (tr_no (hs (24 * a + r))) (tr_no T) := by
        obtain ⟨u1, u2, u3, u4, u5, u6, u7⟩ := v5
        refine ⟨y2, ?_, ?_, fun q => absurd rfl q, ?_, fun q => absurd rfl q, ?_, trivial, fun t ht => (by cases ht), ?_, ?_, ?_⟩
        · simp [pm_u]; exact u3
        · simp [pm_u]; exact u4
        · simp [pm_u]; exact u5
        · simp [pm_u]; exact u6
        · simp [pm_u]; exact u1
        · simp [pm_u]; exact u2
        · simp [pm_u, Ne.symm hxX, Ne.symm hxT2]; exact u7
      generalize (pm_u (pm_u M5 (f + 18) xX (nI x)) (f + 18) xT (nI x)) = M7 at frA n7 cX7 cT7 ⊢
      rw [hlt] at y9
      refine ⟨hF.1, s_siftT (h := sm h0 M7) (k := (x, r + 1, tg, 0, [])) (hFm M7) (hPm M7) y9 y11 y12 n7 cX7 cT7 xw tw (by show 0 < tg; rw [← htg]; exact hpos _ _) (Or.inl rfl) y8 y5 y6 y7 (fun M8 c8 fr8 u8 => ?_)⟩
      have frB := frA.trans fr8
      have hrT : tr_rk (tn k' l' r') = r + 1 := y13
      rw [show nI x = tr_no (tn k' l' r') by show nI x = nI k'.1; rw [y12]]
      refine s_joinL hlt hF hL hf ha hw hpos hTv n (r + 1) (up1 hs (24 * a + r) .leaf) (tn k' l' r') M8 (by omega) y16 ⟨fun q' hq' => ?_, c8, fun j hj1 hj2 => ?_, fun t ht1 ht2 => ?_⟩ rfl hrT (fj2.trans frB.fj) k
      · have e20 : M8 (f + 20) = M2 (f + 20) := frB.other (fun q hq => by omega) (by omega) (by omega)
        rw [e20, r10]
        by_cases zz : q' = 24 * a + r
        · rw [zz, up1_at, if_pos rfl]; exact ⟨trivial, rfl⟩
        · rw [up1_ne hs _ zz, if_neg zz]
          obtain ⟨o1, o2⟩ := hother q' hq' zz
          exact ⟨frB.nc (cO2 q' hq') o1 o2, (hRC.1 q' hq').2⟩
      · by_cases zz : j ∈ tr_ids (tn (x, r + 1, tg, 0, []) (hs (24 * a + r)) T)
        · exact u8 j zz (fun q => hj2 (List.mem_append_right _ q))
        · rw [frB.node (q := 1) (by decide) zz]
          show M2 (f + 2) j = -1
          rw [r2]
          refine hRC.2.2.1 j hj1 (fun q => ?_)
          rcases List.mem_append.mp q with q | q
          · have q2 := pi.mem_iff.mpr (List.mem_append_right _ q)
            rcases List.mem_append.mp q2 with q2 | q2
            · exact hj2 (List.mem_append_left _ q2)
            · exact zz (List.mem_cons_of_mem _ (List.mem_append_left _ q2))
          · exact zz (List.mem_cons_of_mem _ (List.mem_append_right _ q))
      · have zz : t ∉ tr_its (tn (x, r + 1, tg, 0, []) (hs (24 * a + r)) T) := fun q => ht2 (List.mem_append_right _ (g4.mem_iff.mpr q))
        rw [frB.item (Or.inr rfl) zz, r24]
        refine hRC.2.2.2 t ht1 (fun q => ?_)
        rcases List.mem_append.mp q with q | q
        · have q2 := pt.mem_iff.mpr (List.mem_append_right _ q)
          rcases List.mem_append.mp q2 with q2 | q2
          · exact ht2 (List.mem_append_left _ q2)
          · exact zz (List.mem_append_right _ (List.mem_append_left _ q2))
        · exact zz (List.mem_append_right _ (List.mem_append_right _ q))
end JNL
