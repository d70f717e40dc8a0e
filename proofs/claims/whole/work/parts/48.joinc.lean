/-! JOIN, as the class walks it */ -/
/-- the class's rows hold the HEAPS, and the TREE on its way -/
def RC (M : Nat → Nat → Int32) (f : Nat) (hs : Hs) (T : Tr) : Prop :=
  (∀ q, q < 72 → NC M f (-1) (hs q) ∧ M (f + 20) q = tr_no (hs q)) ∧ NC M f (-1) T ∧ (∀ j, j < 24 → j ∉ aids hs ++ tr_ids T → M (f + 2) j = -1) ∧ ∀ t, t < 20 → t ∉ aits hs ++ tr_its T → M (f + 24) t = -1
theorem TR_live {M : Nat → Nat → Int32} {f : Nat} : ∀ {T : Tr} {p : Int32} {b : Nat}, NC M f p T → TR T → (isL T = true ∨ tr_rk T < b) → b < 2 ^ 31 → ∀ j ∈ tr_ids T, M (f + 2) j ≠ -1
  | .leaf, _, _, _, _, _, _, j, hj => by cases hj
  | .inner _ k _ l r, p, b, ⟨hk, hl, hr⟩, ⟨t1, t2, t3, t4⟩, hb, hb2, j, hj => by
    have hkb : n_rk k < b := by
      rcases hb with q | q
      · cases q
      · exact q
    rcases List.mem_cons.mp hj with q | q
    · rw [q, hk.2.1]
      exact nI_nm1 (by omega)
    · rcases List.mem_append.mp q with q | q
      · exact TR_live hl t3 t1 (by omega) j q
      · exact TR_live hr t4 t2 (by omega) j q
theorem RC.live {M : Nat → Nat → Int32} {f : Nat} {hs : Hs} {T : Tr} {w : Nat} (h : RC M f hs T) (hw : wf hs T w) (hw2 : w ≤ 1000) : ∀ j ∈ aids hs ++ tr_ids T, M (f + 2) j ≠ -1 := by
  intro j hj
  rcases List.mem_append.mp hj with q | q
  · obtain ⟨x, hx, hx2⟩ := aids_mem.mp q
    obtain ⟨y1, y2, y3⟩ := hw.2.2.2.2.1 x hx
    refine TR_live (b := 24) (h.1 x hx).1 y2 ?_ (by decide) j hx2
    cases hz : isL (hs x) with
    | true => exact Or.inl rfl
    | false => exact Or.inr (by rw [y3 hz]; omega)
  · refine TR_live (b := 24) h.2.1 hw.2.2.2.2.2.2.1 ?_ (by decide) j q
    cases hz : isL T with
    | true => exact Or.inl rfl
    | false => exact Or.inr (by have := hw.rk hz hw2; omega)
/-- another parent -/
theorem NC.above {M : Nat → Nat → Int32} {f : Nat} {p v : Int32} {T : Tr} (h : NC M f p T) (hn : (tr_ids T).Nodup) (hl : isL T = false) : ∃ x, x < 24 ∧ tr_no T = nI x ∧ x ∈ tr_ids T ∧ NC (pm_u M (f + 18) x v) f v T := by
  cases T with
  | leaf => cases hl
  | inner z k u l r =>
    obtain ⟨⟨h0, h1, h2, h3, h4, h5, h6, h7, h8, h9, h10, h11⟩, c1, c2⟩ := h
    obtain ⟨n1, n2⟩ := List.nodup_cons.mp hn
    have fr : Fr M (pm_u M (f + 18) k.1 v) f [k.1] [] := Fr.u (q := 9) (by decide) (by simp)
    refine ⟨k.1, h0, rfl, List.mem_cons_self, ⟨h0, ?_, ?_, fun q => ?_, ?_, fun q => ?_, ?_, LC.congr (fun t _ => ?_) h7, fun t ht => ⟨?_, (h8 t ht).2⟩, ?_, ?_, ?_⟩, fr.nc c1 (fun j hj q => n1 ?_) (fun j _ q => by cases q), fr.nc c2 (fun j hj q => n1 ?_) (fun j _ q => by cases q)⟩
    · simp [pm_u]; exact h1
    · simp [pm_u]; exact h2
    · simp [pm_u]; exact h3 q
    · simp [pm_u]; exact h4
    · simp [pm_u]; exact h5 q
    · simp [pm_u]; exact h6
    · simp [pm_u]
    · simp [pm_u]; exact (h8 t ht).1
    · simp [pm_u]; exact h9
    · simp [pm_u]; exact h10
    · simp [pm_u]
    · rw [List.mem_singleton] at q; exact List.mem_append_left _ (q ▸ hj)
    · rw [List.mem_singleton] at q; exact List.mem_append_right _ (q ▸ hj)
section JNC
variable {G : pm_G} {d : Nat} {h : pm_H} {f : Nat}
theorem s_siftT {Q : pm_H → Prop} {k k' : Nd} {l r l' r' : Tr} {p : Int32} {m : Nat} (hF : Fa h f) (hP : Pk h) (e : siftF (kLt (gf h 16)) 400 k l r = some (k', l', r', m)) (hm : m ≤ 1000) (e1 : k'.1 = k.1) (hk : NN (gi h) f p k (tr_no l) (tr_no r)) (hl : NC (gi h) f (nI k.1) l) (hr : NC (gi h) f (nI k.1) r) (wl : TW l) (wr' : TW r) (htg : 0 < n_tg k) (hld : n_ls k = [] ∨ n_ld k < 20) (htr : TR (tn k l r))
    (hid : (tr_ids (tn k l r)).Nodup) (hit : (tr_its (tn k l r)).Nodup) (hlen : (tr_its (tn k l r)).length ≤ 20)
    (w : ∀ M', NC M' f p (tn k' l' r') → Fr (gi h) M' f (tr_ids (tn k l r)) (tr_its (tn k l r)) → (∀ j ∈ tr_ids (tn k l r), j ∉ tr_ids (tn k' l' r') → M' (f + 2) j = -1) → Q (sm h M')) : cv G (d + 3) m_X0_sift [.ref f, .int (nI k.1)] h Q := by
  refine cv_wp rfl (Nat.le_of_ble_eq_true rfl) rfl (x_X0_sift ?_)
  have := s_siftL (G := G) (d := d) (f := f) (post := fun v h1 => v = none ∧ Q h1) (top := k.1) hk.1 400 h k l r p 0 k' l' r' m e hF hP hk hl hr wl wr' htg hld htr hid hit hlen (Or.inl rfl) (by omega) ?_
  · exact this
  · intro M' u1 u2 u3 u4 u5
    rw [if_pos rfl]
    refine x_X0_sift_4 ?_
    have hw := w M' ⟨u1, by rw [e1]; exact u2, by rw [e1]; exact u3⟩ u4 u5
    split
    · exact ⟨rfl, hw⟩
    · rw [if_pos rfl]; exact ⟨rfl, hw⟩
/-- a new NODE, at the first free number -/
theorem s_newNode {Q : Int32 → pm_H → Prop} {x : Nat} {rk tg : Int32} (hF : Fa h f) (hx : x < 24) (h0 : gi h (f + 2) x = -1) (hlt : ∀ j, j < x → gi h (f + 2) j ≠ -1)
    (w : ∀ M', M' (f + 2) x = rk → M' (f + 4) x = tg → M' (f + 8) x = -1 → M' (f + 12) x = 0 → M' (f + 18) x = -1 → M' (f + 14) x = -1 ∧ M' (f + 16) x = -1 → Fr (gi h) M' f [x] [] → Q (nI x) (sm h M')) : ci G (d + 2) m_X0_newNode [.ref f, .int rk, .int tg] h Q := by
  refine ci_wp rfl (Nat.le_of_ble_eq_true rfl) rfl (x_X0_newNode ?_)
  refine up_to (P := fun k => Wp G (m_X0_newNode, d + 1 + 1, 0, 0, fun v h1 => ∃ r, v = some (.int r) ∧ Q r h1) (0, 0) 2 [.ref f, .int rk, .int tg, .int (nI k)] [] h) x (fun k hk ih => ?_) ?_
  · refine x_X0_newNode_2 ?_
    rw [if_neg (li_no 24 24 rfl (by omega) (by decide))]
    refine ⟨hF.1, f_at1 hF ?_⟩
    rw [rd_in (by omega) (by decide), if_neg (hlt k hk), nI_1]
    exact ih
  · refine x_X0_newNode_2 ?_
    rw [if_neg (li_no 24 24 rfl hx (by decide))]
    refine ⟨hF.1, f_at1 hF ?_⟩
    rw [rd_in hx (by decide), if_pos h0]
    refine ⟨hF.1, f_set1 hF ⟨hF.1, f_set2 (f := f) hF ⟨hF.1, f_set3 (f := f) hF ⟨hF.1, f_set4 (f := f) hF ⟨hF.1, f_set5 (f := f) hF ⟨hF.1, f_set6 (f := f) hF ⟨hF.1, f_set7 (f := f) hF ⟨hF.1, f_set8 (f := f) hF ⟨hF.1, f_set9 (f := f) hF ?_⟩⟩⟩⟩⟩⟩⟩⟩⟩
    dsimp only [gi, sm]
    simp only [wr_in hx (show (24 : Nat) < 2 ^ 31 by decide)]
    refine ⟨_, rfl, w _ ?_ ?_ ?_ ?_ ?_ ⟨?_, ?_⟩ ?_⟩
    · simp [pm_u]
    · simp [pm_u]
    · simp [pm_u]
    · simp [pm_u]
    · simp [pm_u]
    · simp [pm_u]
    · simp [pm_u]
    · exact ((((((((Fr.u (q := 1) (by decide) (by simp)).trans (Fr.u (q := 2) (by decide) (by simp))).trans (Fr.u (q := 3) (by decide) (by simp))).trans (Fr.u (q := 4) (by decide) (by simp))).trans (Fr.u (q := 5) (by decide) (by simp))).trans (Fr.u (q := 6) (by decide) (by simp))).trans (Fr.u (q := 7) (by decide) (by simp))).trans (Fr.u (q := 8) (by decide) (by simp))).trans (Fr.u (q := 9) (by decide) (by simp))
end JNC
