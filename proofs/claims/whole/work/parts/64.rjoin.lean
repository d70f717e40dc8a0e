/-! THE REFERENCE: JOIN -/
def fp (h : pm_H) (F P : Nat → Int32) : pm_H := (h.1, (fun a => if a = 456 then F else if a = 457 then P else gi h a), h.2.2)
theorem fp_self (h : pm_H) : fp h (gi h 456) (gi h 457) = h := by
  have : (fun a => if a = 456 then gi h 456 else if a = 457 then gi h 457 else gi h a) = gi h := by
    funext a
    by_cases ha : a = 456
    · rw [if_pos ha, ha]
    · rw [if_neg ha]
      by_cases hb : a = 457
      · rw [if_pos hb, hb]
      · rw [if_neg hb]
  show (h.1, (fun a => if a = 456 then gi h 456 else if a = 457 then gi h 457 else gi h a), h.2.2) = h
  rw [this]
theorem fp_fp (h : pm_H) (F P F' P' : Nat → Int32) : fp (fp h F P) F' P' = fp h F' P' := by
  have : (fun a => if a = 456 then F' else if a = 457 then P' else gi (fp h F P) a) = (fun a => if a = 456 then F' else if a = 457 then P' else gi h a) := by
    funext a
    by_cases ha : a = 456
    · rw [if_pos ha, if_pos ha]
    · rw [if_neg ha, if_neg ha]
      by_cases hb : a = 457
      · rw [if_pos hb, if_pos hb]
      · rw [if_neg hb, if_neg hb]
        show (if a = 456 then F else if a = 457 then P else gi h a) = _
        rw [if_neg ha, if_neg hb]
  show (h.1, _, h.2.2) = (h.1, _, h.2.2)
  rw [this]
theorem fp_ne (h : pm_H) (F P : Nat → Int32) {a : Nat} (h1 : a ≠ 456) (h2 : a ≠ 457) : gi (fp h F P) a = gi h a := by
  show (if a = 456 then F else if a = 457 then P else gi h a) = _
  rw [if_neg h1, if_neg h2]
theorem Md.f {h : pm_H} (hM : Md h) (F P : Nat → Int32) : Md (fp h F P) := hM
/-- how a TARGET grows, whatever else stands there -/
def GRc (G : pm_G) (d : Nat) (h : pm_H) (tvf : Int32 → Nat → Int32 → Int32) : Prop := ∀ (S F P : Nat → Int32) (al : Int32) (rk : Nat) (tg : Int32) (Q' : Int32 → pm_H → Prop), (∀ F' P', Q' (tvf al rk tg) (s8 (fp h F' P') S)) → ci G d m_X12_grows [.ref 446, .int (nI rk), .int tg, .int al] (s8 (fp h F P) S) Q'
def RR (ky S : Nat → Int32) (b : Nat) (hs : Hs) (T : Tr) : Prop := (∀ a r, a < 3 → r < 16 → NR ky S b (hs (24 * a + r)) ∧ S (b + 192 + 16 * a + r) = tr_no (hs (24 * a + r))) ∧ NR ky S b T ∧ ∀ j, j < 24 → j ∉ aids hs ++ tr_ids T → S (b + 8 * j) = -1
/-- HEAPS, SHELVES, places and all behind stay -/
def RJ (S S' : Nat → Int32) (b : Nat) : Prop := ∀ i, i < b ∨ (b + 240 ≤ i ∧ i < b + 300) ∨ b + 320 ≤ i → S' i = S i
theorem RJ.rfl' {S : Nat → Int32} {b : Nat} : RJ S S b := fun _ _ => rfl
theorem RJ.trans {S S1 S2 : Nat → Int32} {b : Nat} (h1 : RJ S S1 b) (h2 : RJ S1 S2 b) : RJ S S2 b := fun i q => (h2 i q).trans (h1 i q)
theorem RF.rj {S S' : Nat → Int32} {b : Nat} {ids its : List Nat} (h : RF S S' b ids its) (hi : ∀ n ∈ ids, n < 24) (ht : ∀ t ∈ its, t < 20) : RJ S S' b := fun i q => h.other hi ht (by omega)
theorem RJ.root {S : Nat → Int32} {b x : Nat} {v : Int32} (hx : x < 48) : RJ S (up1 S (b + 192 + x) v) b := fun i q => up1_ne _ _ (by omega)
theorem NR.live {ky S : Nat → Int32} {b : Nat} : ∀ {T : Tr} {B : Nat}, NR ky S b T → TR T → (isL T = true ∨ tr_rk T < B) → B < 2 ^ 31 → ∀ j ∈ tr_ids T, 0 ≤ S (b + 8 * j)
  | .leaf, _, _, _, _, _, j, hj => by cases hj
  | .inner _ k _ l r, B, ⟨hk, hl, hr⟩, ⟨t1, t2, t3, t4⟩, hb, hb2, j, hj => by
    have hkb : n_rk k < B := by
      rcases hb with q | q
      · cases q
      · exact q
    rcases List.mem_cons.mp hj with q | q
    · rw [q, hk.2.1]
      exact nI_0le (by omega)
    · rcases List.mem_append.mp q with q | q
      · exact hl.live t3 t1 (by omega) j q
      · exact hr.live t4 t2 (by omega) j q
theorem RR.live {ky S : Nat → Int32} {b w : Nat} {hs : Hs} {T : Tr} (h : RR ky S b hs T) (hwf : wf hs T w) (hw : w ≤ 1000) : ∀ j ∈ aids hs ++ tr_ids T, 0 ≤ S (b + 8 * j) := by
  intro j hj
  rcases List.mem_append.mp hj with q | q
  · obtain ⟨x, hx, hx2⟩ := aids_mem.mp q
    obtain ⟨y1, y2, y3⟩ := hwf.2.2.2.2.1 x hx
    have hz : isL (hs x) = false := by
      cases hz : isL (hs x) with
      | true => rw [(isL_ids hz).1] at hx2; cases hx2
      | false => rfl
    have h16 : x % 24 < 16 := by
      apply Classical.byContradiction
      intro z
      rw [hwf.high hw hx (by omega)] at hz
      cases hz
    have := (h.1 (x / 24) (x % 24) (by omega) h16).1
    rw [show 24 * (x / 24) + x % 24 = x by omega] at this
    exact this.live y2 (Or.inr (by rw [y3 hz]; exact h16)) (by decide) j hx2
  · refine h.2.1.live (B := 24) hwf.2.2.2.2.2.2.1 ?_ (by decide) j q
    cases hz : isL T with
    | true => exact Or.inl rfl
    | false => exact Or.inr (by have := hwf.rk hz hw; omega)
theorem NR.tg {ky S : Nat → Int32} {b : Nat} {T : Tr} (h : NR ky S b T) (hl : isL T = false) : ∃ x, x < 24 ∧ tr_no T = nI x ∧ x ∈ tr_ids T ∧ S (b + 8 * x) = nI (tr_rk T) ∧ S (b + 8 * x + 1) = tr_tg T := by
  cases T with
  | leaf => cases hl
  | inner z k u l r => exact ⟨k.1, h.1.1, rfl, List.mem_cons_self, h.1.2.1, h.1.2.2.1⟩
section RJN
variable {G : pm_G} {d : Nat} {h : pm_H}
theorem r_siftT {ky S : Nat → Int32} {b D : Nat} {Q : pm_H → Prop} {k k' : Nd} {l r l' r' : Tr} {m : Nat} (hM : Md h) (hb : b + 320 ≤ 4485) (e : siftF (rLt ky) 400 k l r = some (k', l', r', m)) (hk : RN ky S b k (tr_no l) (tr_no r)) (hl : NR ky S b l) (hr : NR ky S b r) (wl : TW l) (wr' : TW r) (htg : 0 < n_tg k) (htr : TR (tn k l r)) (hid : (tr_ids (tn k l r)).Nodup) (hit : (tr_its (tn k l r)).Nodup) (hlen : (tr_its (tn k l r)).length ≤ 20) (hD : n_rk k ≤ D)
    (w : ∀ S', NR ky S' b (tn k' l' r') → RF S S' b (tr_ids (tn k l r)) (tr_its (tn k l r)) → (∀ j ∈ tr_ids (tn k l r), j ∉ tr_ids (tn k' l' r') → S' (b + 8 * j) = -1) → Q (s8 h S')) : cv G (D + 3) m_X12_sifts [.ref 446, .int (nI b), .int (nI k.1)] (s8 h S) Q :=
  cv_wp rfl (Nat.le_of_ble_eq_true rfl) rfl (r_siftL hM hb 400 D _ S k l r k' l' r' m e hk hl hr wl wr' htg htr hid hit hlen hD (fun S' u1 u2 u3 u4 u5 => ⟨rfl, w S' ⟨u1, u2, u3⟩ u4 u5⟩))
theorem r_joinL {ky : Nat → Int32} {post : pm_PT} {tvf : Int32 → Nat → Int32 → Int32} {a b w : Nat} {al : Int32} (hM : Md h) (hb : b + 320 ≤ 4485) (ha : a < 3) (hw : w ≤ 1000) (hpos : ∀ al r t, 0 < tvf al r t) (hG : GRc G (d + 20) h tvf) :
    ∀ (n r : Nat) (hs : Hs) (T : Tr) (S F P : Nat → Int32), r + n = 24 → wf hs T w → RR ky S b hs T → isL T = false → tr_rk T = r →
      (∀ S' F' P', RR ky S' b (joinF (rLt ky) (tvf al) n hs T a r) .leaf → RJ S S' b → post none (s8 (fp h F' P') S')) →
      Wp G (m_X12_joins, d + 21, 0, 0, post) (0, 0) 18 [.ref 446, .int (nI b), .int (nI a), .null, .int (tr_no T), .int al, .null, .null, .null, .null] [] (s8 (fp h F P) S)
  | 0, r, hs, T, S, F, P, hn, hwf, _, hT, hr, _ => by
    have := hwf.rk hT hw
    omega
  | n + 1, r, hs, T, S, F, P, hn, hwf, hRC, hT, hr, k => by
    have hr9 : r ≤ 9 := hr ▸ hwf.rk hT hw
    have hq : 24 * a + r < 72 := by omega
    have hMf : ∀ F P, Md (fp h F P) := fun F P => hM
    obtain ⟨xt, xt1, xt2, xt3, xt4, xt5⟩ := hRC.2.1.tg hT
    rw [hr] at xt4
    obtain ⟨cX, cR⟩ := hRC.1 a r ha (by omega)
    refine x_X12_joins_18 ?_
    rw [xt2]
    refine ⟨hM.1, r_nodeOf (d := d + 19) (w := 0) (hMf F P) (by omega) ?_⟩
    rw [show S (b + 8 * xt + 0) = nI r from xt4]
    refine ⟨hM.1, r_rootAt (d := d + 19) (hMf F P) (by omega) ?_⟩
    rw [cR]
    by_cases hX : isL (hs (24 * a + r)) = true
    · rw [if_pos (cX.m1.2.1.mpr hX)]
      refine ⟨hM.1, r_nodeOf (d := d + 19) (w := 0) (hMf F P) (by omega) ?_⟩
      rw [show S (b + 8 * xt + 0) = nI r from xt4]
      refine ⟨hM.1, r_roots (d := d + 19) (hMf F P) (by omega) ?_⟩
      have e : joinF (rLt ky) (tvf al) (n + 1) hs T a r = up1 hs (24 * a + r) T := by rw [joinF, if_pos hX]
      rw [e] at k
      have pi := aids_up (hs := hs) (q := 24 * a + r) T hq
      rw [isL_leaf hX] at pi
      refine k _ F P ⟨fun a' r' ha' hr' => ⟨?_, ?_⟩, trivial, fun j hj hj2 => ?_⟩ (by rw [show b + 192 + 16 * a + r = b + 192 + (16 * a + r) by omega]; exact RJ.root (by omega))
      · have keep : ∀ {X : Tr}, NR ky S b X → NR ky (up1 S (b + 192 + 16 * a + r) (nI xt)) b X := fun {X} hX => by
          have : ∀ {X : Tr}, NR ky S b X → NR ky (up1 S (b + 192 + 16 * a + r) (nI xt)) b X := by
            intro X
            induction X with
            | leaf => intro _; trivial
            | inner z k u l r' ihl ihr =>
              rintro ⟨h1, h2, h3⟩
              have := h1.1
              exact ⟨h1.congr (fun w hw => up1_ne _ _ (by omega)) (fun t ht => up1_ne _ _ (by omega)), ihl h2, ihr h3⟩
          exact this hX
        by_cases z : 24 * a' + r' = 24 * a + r
        · rw [z, up1_at]; exact keep hRC.2.1
        · rw [up1_ne hs _ z]; exact keep (hRC.1 a' r' ha' hr').1
      · by_cases z : 24 * a' + r' = 24 * a + r
        · rw [z, up1_at, xt2, show b + 192 + 16 * a' + r' = b + 192 + 16 * a + r by omega, up1_at]
        · rw [up1_ne hs _ z, up1_ne _ _ (by omega)]; exact (hRC.1 a' r' ha' hr').2
      · rw [up1_ne _ _ (by omega)]
        refine hRC.2.2 j hj fun q => hj2 ?_
        exact List.mem_append_left _ ((pi.trans List.perm_append_comm).mem_iff.mpr q |> fun y => by simpa [tr_ids] using y)
    · have hX' : isL (hs (24 * a + r)) = false := by simpa using hX
      rw [if_neg (fun q => hX (cX.m1.2.1.mp q))]
      obtain ⟨xx, xx1, xx2, xx3, xx4, xx5⟩ := cX.tg hX'
      refine ⟨hM.1, r_nodeOf (d := d + 19) (w := 0) (hMf F P) (by omega) ?_⟩
      rw [show S (b + 8 * xt + 0) = nI r from xt4]
      refine ⟨hM.1, r_rootAt (d := d + 19) (hMf F P) (by omega) ?_⟩
      rw [cR, xx2]
      refine ⟨hM.1, r_roots (d := d + 19) (hMf F P) (by omega) ?_⟩
      refine ⟨hM.1, r_nodeOf (d := d + 19) (w := 1) (hMf F P) (by omega) ?_⟩
      refine ⟨hM.1, r_nodeOf (d := d + 19) (w := 1) (hMf F P) (by omega) ?_⟩
      have rj1 : RJ S (up1 S (b + 192 + 16 * a + r) (-1)) b := by rw [show b + 192 + 16 * a + r = b + 192 + (16 * a + r) by omega]; exact RJ.root (by omega)
      have g1 : ∀ n j, n < 24 → j < 8 → up1 S (b + 192 + 16 * a + r) (-1) (b + 8 * n + j) = S (b + 8 * n + j) := fun n j hn hj => up1_ne _ _ (by omega)
      have g2 : ∀ t, up1 S (b + 192 + 16 * a + r) (-1) (b + 300 + t) = S (b + 300 + t) := fun t => up1_ne _ _ (by omega)
      have g3 : ∀ a' r', a' < 3 → r' < 16 → up1 S (b + 192 + 16 * a + r) (-1) (b + 192 + 16 * a' + r') = if 24 * a' + r' = 24 * a + r then -1 else tr_no (hs (24 * a' + r')) := fun a' r' ha' hr' => by
        by_cases z : 24 * a' + r' = 24 * a + r
        · rw [if_pos z, show b + 192 + 16 * a' + r' = b + 192 + 16 * a + r by omega, up1_at]
        · rw [if_neg z, up1_ne _ _ (by omega)]; exact (hRC.1 a' r' ha' hr').2
      rw [g1 xx 1 xx1 (by decide), g1 xt 1 xt1 (by decide), xx5, xt5]
      have keep : ∀ {X : Tr}, NR ky S b X → NR ky (up1 S (b + 192 + 16 * a + r) (-1)) b X := by
        intro X
        induction X with
        | leaf => intro _; trivial
        | inner z k u l r' ihl ihr =>
          rintro ⟨h1, h2, h3⟩
          exact ⟨h1.congr (fun w hw => g1 _ _ h1.1 hw) (fun t ht => g2 t), ihl h2, ihr h3⟩
      have cX1 := keep cX
      have cT1 := keep hRC.2.1
      have cO1 : ∀ a' r', a' < 3 → r' < 16 → NR ky (up1 S (b + 192 + 16 * a + r) (-1)) b (hs (24 * a' + r')) := fun a' r' ha' hr' => keep (hRC.1 a' r' ha' hr').1
      generalize up1 S (b + 192 + 16 * a + r) (-1) = S1 at *
      obtain ⟨y1, y2, y3, y4, y5, y6, y7, y8, k', l', r', m, y9, y10, y11, y12, y13, y14, y15, y16⟩ := wf_join (lt := rLt ky) (tg := tvf al (r + 1) (mx (tr_tg (hs (24 * a + r))) (tr_tg T))) hwf hT hr hw ha hX' (hpos _ _ _)
      have eJ : joinF (rLt ky) (tvf al) (n + 1) hs T a r = joinF (rLt ky) (tvf al) n (up1 hs (24 * a + r) .leaf) (tn k' l' r') a (r + 1) := by rw [joinF, if_neg hX, y10]
      rw [eJ] at k
      have hfree := hRC.2.2 _ y2 y3
      have hlive : ∀ j, j < lfree (aids hs ++ tr_ids T) → 0 ≤ S (b + 8 * j) := fun j hj => hRC.live hwf hw j (y4 j hj)
      have hi4 := hwf.2.2.2.1
      have ht3 := hwf.2.2.1
      have hnd := hwf.1
      have hnt := hwf.2.1
      have pi := aids_up (hs := hs) (q := 24 * a + r) .leaf hq
      have pt := aits_up (hs := hs) (q := 24 * a + r) .leaf hq
      have hxm : ∀ n, n < 24 → S1 (b + 8 * n) = S (b + 8 * n) := fun n hn => g1 n 0 hn (by decide)
      generalize hj : lfree (aids hs ++ tr_ids T) = x at *
      -- the same from here on, whichever TARGET is the greater one
      have main : ∀ v : Int32, v = mx (tr_tg (hs (24 * a + r))) (tr_tg T) → (s8 (fp h F P) S1).1[446]? = some (0, 11) ∧ ci G (d + 20) m_X12_freeNode [.ref 446, .int (nI b)] (s8 (fp h F P) S1) fun r21 h22 => h22.1[446]? = some (0, 11) ∧ ci G (d + 20) m_X12_grows [.ref 446, .int (nI r + 1), .int v, .int al] h22 fun r23 h24 => h24.1[446]? = some (0, 11) ∧ cv G (d + 20) m_X12_makes [.ref 446, .int (nI b), .int r21, .int (nI r + 1), .int r23] h24 fun h26 => h26.1[446]? = some (0, 11) ∧ cv G (d + 20) m_X12_lays [.ref 446, .int (nI b), .int r21, .int 6, .int (nI xx)] h26 fun h28 => h28.1[446]? = some (0, 11) ∧ cv G (d + 20) m_X12_lays [.ref 446, .int (nI b), .int r21, .int 7, .int (nI xt)] h28 fun h30 => h30.1[446]? = some (0, 11) ∧ cv G (d + 20) m_X12_sifts [.ref 446, .int (nI b), .int r21] h30 fun h32 => Wp G (m_X12_joins, d + 20 + 1, 0, 0, post) (0, 0) 18 [.ref 446, .int (nI b), .int (nI a), .null, .int r21, .int al, .null, .null, .null, .null] [] h32 := by
        intro v hv
        subst hv
        refine ⟨hM.1, r_freeNode (d := d + 18) (x := x) (hMf F P) hb y2 (by rw [hxm x y2]; exact hfree) (fun j hj1 => by rw [hxm j (by omega)]; exact hlive j hj1) ?_⟩
        rw [nI_1]
        refine ⟨hM.1, hG S1 F P al (r + 1) _ _ (fun F' P' => ?_)⟩
        generalize htg : tvf al (r + 1) (mx (tr_tg (hs (24 * a + r))) (tr_tg T)) = tg at *
        refine ⟨hM.1, r_makes (d := d + 17) (hMf F' P') (by omega) ⟨hM.1, r_lays (d := d + 19) (w := 6) (hMf F' P') (by omega) ⟨hM.1, r_lays (d := d + 19) (w := 7) (hMf F' P') (by omega) ?_⟩⟩⟩
        have fr3 : RF S1 (up1 (up1 (up1 (up1 (up1 (up1 (fr8 S1 b x 8) (b + 8 * x) (nI (r + 1))) (b + 8 * x + 1) tg) (b + 8 * x + 2) 0) (b + 8 * x + 3) 0) (b + 8 * x + 6) (nI xx)) (b + 8 * x + 7) (nI xt)) b [x] [] :=
          ((((((RF.fr (by simp)).trans (RF.u (w := 0) (by simp) (by decide))).trans (RF.u (w := 1) (by simp) (by decide))).trans (RF.u (w := 2) (by simp) (by decide))).trans (RF.u (w := 3) (by simp) (by decide))).trans (RF.u (w := 6) (by simp) (by decide))).trans (RF.u (w := 7) (by simp) (by decide))
        have n3 : RN ky (up1 (up1 (up1 (up1 (up1 (up1 (fr8 S1 b x 8) (b + 8 * x) (nI (r + 1))) (b + 8 * x + 1) tg) (b + 8 * x + 2) 0) (b + 8 * x + 3) 0) (b + 8 * x + 6) (nI xx)) (b + 8 * x + 7) (nI xt)) b (x, r + 1, tg, 0, []) (nI xx) (nI xt) := by
          refine ⟨y2, ?_, ?_, fun q => absurd rfl q, ?_, ?_, fun q => absurd rfl q, ?_, ?_, trivial, fun t ht => (by cases ht)⟩
          · rw [up1_ne _ _ (by omega), up1_ne _ _ (by omega), up1_ne _ _ (by omega), up1_ne _ _ (by omega), up1_ne _ _ (by omega), up1_at]
          · rw [up1_ne _ _ (by omega), up1_ne _ _ (by omega), up1_ne _ _ (by omega), up1_ne _ _ (by omega), up1_at]
          · rw [up1_ne _ _ (by omega), up1_ne _ _ (by omega), up1_at]; rfl
          · rw [up1_ne _ _ (by omega), up1_ne _ _ (by omega), up1_ne _ _ (by omega), up1_ne _ _ (by omega), up1_ne _ _ (by omega), up1_ne _ _ (by omega)]
            exact if_pos ⟨by omega, by omega⟩
          · rw [up1_ne _ _ (by omega), up1_at]
          · rw [up1_at]
        generalize (up1 (up1 (up1 (up1 (up1 (up1 (fr8 S1 b x 8) (b + 8 * x) (nI (r + 1))) (b + 8 * x + 1) tg) (b + 8 * x + 2) 0) (b + 8 * x + 3) 0) (b + 8 * x + 6) (nI xx)) (b + 8 * x + 7) (nI xt)) = S3 at fr3 n3 ⊢
        obtain ⟨xw, xr, xk⟩ := hwf.2.2.2.2.1 _ hq
        obtain ⟨tw, tr, -⟩ := hwf.2.2.2.2.2
        have hs1 : ∀ i ∈ [x], i < 24 := fun i hi => by rw [List.mem_singleton] at hi; rw [hi]; exact y2
        obtain ⟨hjX, hXT⟩ := List.nodup_cons.mp (show (x :: (tr_ids (hs (24 * a + r)) ++ tr_ids T)).Nodup from y5)
        have cX3 : NR ky S3 b (hs (24 * a + r)) := fr3.nr hs1 cX1 (fun j hj1 q => hjX (List.mem_append_left _ (by rw [List.mem_singleton] at q; exact q ▸ hj1))) (fun j _ q => by cases q)
        have cT3 : NR ky S3 b T := fr3.nr hs1 cT1 (fun j hj1 q => hjX (List.mem_append_right _ (by rw [List.mem_singleton] at q; exact q ▸ hj1))) (fun j _ q => by cases q)
        have n3' : RN ky S3 b (x, r + 1, tg, 0, []) (tr_no (hs (24 * a + r))) (tr_no T) := by rw [xx2, xt2]; exact n3
        refine ⟨hM.1, r_siftT (D := d + 17) (k := (x, r + 1, tg, 0, [])) (hMf F' P') hb y9 n3' cX3 cT3 xw tw (by show 0 < tg; rw [← htg]; exact hpos _ _ _) y8 y5 y6 y7 (by show r + 1 ≤ d + 17; omega) (fun S8 c8 fr8' u8 => ?_)⟩
        have frB : RF S1 S8 b (tr_ids (tn (x, r + 1, tg, 0, []) (hs (24 * a + r)) T)) (tr_its (tn (x, r + 1, tg, 0, []) (hs (24 * a + r)) T)) := (fr3.mono (fun j hj1 => by rw [List.mem_singleton] at hj1; rw [hj1]; exact List.mem_cons_self) (fun j q => by cases q)).trans fr8'
        have hidlt : ∀ i ∈ tr_ids (tn (x, r + 1, tg, 0, []) (hs (24 * a + r)) T), i < 24 := fun i hi => by
          rcases List.mem_cons.mp hi with q | q
          · rw [q]; exact y2
          · rcases List.mem_append.mp q with q | q
            · exact cX1.lt24 i q
            · exact cT1.lt24 i q
        have hitlt : ∀ i ∈ tr_its (tn (x, r + 1, tg, 0, []) (hs (24 * a + r)) T), i < 20 := fun i hi => by
          have hi : i ∈ tr_its (hs (24 * a + r)) ++ tr_its T := hi
          rcases List.mem_append.mp hi with q | q
          · exact ht3 i (List.mem_append_left _ (aits_mem.mpr ⟨_, hq, q⟩))
          · exact ht3 i (List.mem_append_right _ q)
        have hother : ∀ q', q' < 72 → q' ≠ 24 * a + r → (∀ j ∈ tr_ids (hs q'), j ∉ tr_ids (tn (x, r + 1, tg, 0, []) (hs (24 * a + r)) T)) ∧ (∀ j ∈ tr_its (hs q'), j ∉ tr_its (tn (x, r + 1, tg, 0, []) (hs (24 * a + r)) T)) := by
          intro q' hq' hne
          have n1 : (aids (up1 hs (24 * a + r) .leaf) ++ (tr_ids (hs (24 * a + r)) ++ tr_ids T)).Nodup := by
            rw [← List.append_assoc]
            exact (List.Perm.append_right _ pi).nodup_iff.mpr hnd
          have n2 : (aits (up1 hs (24 * a + r) .leaf) ++ (tr_its (hs (24 * a + r)) ++ tr_its T)).Nodup := by
            rw [← List.append_assoc]
            exact (List.Perm.append_right _ pt).nodup_iff.mpr hnt
          refine ⟨fun j hj1 hj2 => ?_, fun j hj1 hj2 => ?_⟩
          · rcases List.mem_cons.mp hj2 with z1 | z1
            · exact y3 (List.mem_append_left _ (aids_mem.mpr ⟨q', hq', by have z2 : j = x := z1; rw [← z2]; exact hj1⟩))
            · exact (List.nodup_append.mp n1).2.2 j (aids_mem.mpr ⟨q', hq', by rw [up1_ne hs _ hne]; exact hj1⟩) j z1 rfl
          · exact (List.nodup_append.mp n2).2.2 j (aits_mem.mpr ⟨q', hq', by rw [up1_ne hs _ hne]; exact hj1⟩) j hj2 rfl
        rw [show nI x = tr_no (tn k' l' r') by show nI x = nI k'.1; rw [y12]]
        refine r_joinL hM hb ha hw hpos hG n (r + 1) (up1 hs (24 * a + r) .leaf) (tn k' l' r') S8 F' P' (by omega) y16 ⟨fun a' r'' ha' hr'' => ?_, c8, fun j hj1 hj2 => ?_⟩ rfl y13 (fun S' F2 P2 e1 e2 => k S' F2 P2 e1 ((rj1.trans (frB.rj hidlt hitlt)).trans e2))
        · rw [frB.other hidlt hitlt (show b + 192 + 16 * a' + r'' < b ∨ (b + 192 ≤ b + 192 + 16 * a' + r'' ∧ b + 192 + 16 * a' + r'' < b + 300) ∨ _ from Or.inr (Or.inl ⟨by omega, by omega⟩)), g3 a' r'' ha' hr'']
          by_cases zz : 24 * a' + r'' = 24 * a + r
          · rw [zz, up1_at, if_pos rfl]; exact ⟨trivial, rfl⟩
          · rw [up1_ne hs _ zz, if_neg zz]
            obtain ⟨o1, o2⟩ := hother (24 * a' + r'') (by omega) zz
            exact ⟨frB.nr hidlt (cO1 a' r'' ha' hr'') o1 o2, rfl⟩
        · by_cases zz : j ∈ tr_ids (tn (x, r + 1, tg, 0, []) (hs (24 * a + r)) T)
          · exact u8 j zz (fun q => hj2 (List.mem_append_right _ q))
          · rw [show b + 8 * j = b + 8 * j + 0 from rfl, frB.node zz hj1 (by decide)]
            rw [show S1 (b + 8 * j + 0) = S (b + 8 * j) from hxm j hj1]
            refine hRC.2.2 j hj1 (fun q => ?_)
            rcases List.mem_append.mp q with q | q
            · have q2 := pi.mem_iff.mpr (List.mem_append_right _ q)
              rcases List.mem_append.mp q2 with q2 | q2
              · exact hj2 (List.mem_append_left _ q2)
              · exact zz (List.mem_cons_of_mem _ (List.mem_append_left _ q2))
            · exact zz (List.mem_cons_of_mem _ (List.mem_append_right _ q))
      by_cases q : tr_tg (hs (24 * a + r)) ≤ tr_tg T
      · rw [if_pos q]
        refine ⟨hM.1, r_nodeOf (d := d + 19) (w := 1) (hMf F P) (by omega) ?_⟩
        rw [g1 xt 1 xt1 (by decide), xt5]
        refine main _ ?_
        unfold mx
        by_cases q2 : tr_tg (hs (24 * a + r)) < tr_tg T
        · rw [if_pos q2]
        · rw [if_neg q2]
          exact Int32.le_antisymm (Int32.not_lt.mp q2) q
      · rw [if_neg q]
        refine ⟨hM.1, r_nodeOf (d := d + 19) (w := 1) (hMf F P) (by omega) ?_⟩
        rw [g1 xx 1 xx1 (by decide), xx5]
        refine main _ ?_
        unfold mx
        rw [if_neg (fun z => q (Int32.le_of_lt z))]
end RJN
