/-! THE REFERENCE: JOIN and PUT -/
def RA (ky S : Nat → Int32) (b : Nat) (A : AF) : Prop := RR ky S b A.1 .leaf ∧ ∀ t, t < 20 → S (b + 240 + t) = A.2.1 t ∧ S (b + 260 + t) = A.2.2.1 t ∧ S (b + 280 + t) = A.2.2.2 t
/-- only this Forest has changed -/
def RZ (S S' : Nat → Int32) (b : Nat) : Prop := ∀ i, i < b ∨ b + 320 ≤ i → S' i = S i
theorem RZ.rfl' {S : Nat → Int32} {b : Nat} : RZ S S b := fun _ _ => rfl
theorem RZ.trans {S S1 S2 : Nat → Int32} {b : Nat} (h1 : RZ S S1 b) (h2 : RZ S1 S2 b) : RZ S S2 b := fun i q => (h2 i q).trans (h1 i q)
theorem RJ.rz {S S' : Nat → Int32} {b : Nat} (h : RJ S S' b) : RZ S S' b := fun i q => h i (by omega)
theorem RZ.u {S : Nat → Int32} {b i : Nat} {v : Int32} (h1 : b ≤ i) (h2 : i < b + 320) : RZ S (up1 S i v) b := fun j q => up1_ne _ _ (by omega)
theorem ixg (b c t : Nat) : (nI b + nI c) + nI t = nI (b + c + t) := by rw [nI_add, nI_add]
/-- the reference's KEYS and numbers -/
def Mk (h : pm_H) : Prop := Md h ∧ gp h 446 21 = 460 ∧ h.1[460]? = some (1, 20) ∧ gp h 446 10 = 452 ∧ h.1[452]? = some (1, 180)
theorem La.mk {h : pm_H} (hL : La h) : Mk h := ⟨hL.md, hL.p (by decide +kernel) (by omega), hL.k (by decide +kernel), hL.p (by decide +kernel) (by omega), hL.k (by decide +kernel)⟩
theorem sfgi (h : pm_H) (S F P : Nat → Int32) {a : Nat} (h1 : a ≠ 456) (h2 : a ≠ 457) (h3 : a ≠ 458) : gi (s8 (fp h F P) S) a = gi h a := (s8_ne _ _ h3).trans (fp_ne _ _ _ h1 h2)
section RPU
variable {G : pm_G} {d : Nat} {h : pm_H} {S F P : Nat → Int32}
theorem r_joins {ky : Nat → Int32} {Q : pm_H → Prop} {tvf : Int32 → Nat → Int32 → Int32} {a b w : Nat} {hs : Hs} {T : Tr} {hp : Nat → Int32} (hM : Md h) (hb : b + 320 ≤ 4485) (ha : a < 3) (hw : w ≤ 1000) (hpos : ∀ al r t, 0 < tvf al r t) (hG : GRc G (d + 20) h tvf)
    (hwf : wf hs T w) (hRC : RR ky S b hs T) (hT : isL T = false) (hp1 : ∀ t, t < 20 → (hp t = nI a ↔ t ∈ hits hs a 24 ∨ t ∈ tr_its T))
    (k : ∀ S' F' P', RR ky S' b (joinF (rLt ky) (tvf (hcount hp a)) (24 - tr_rk T) hs T a (tr_rk T)) .leaf → RJ S S' b → Q (s8 (fp h F' P') S')) : cv G (d + 21) m_X12_joins [.ref 446, .int (nI b), .int (nI a), .int (tr_no T)] (s8 (fp h F P) S) Q := by
  have hr9 := hwf.rk hT hw
  refine cv_wp rfl (Nat.le_of_ble_eq_true rfl) rfl (x_X12_joins ?_)
  refine ⟨hM.1, r_itemsIn (d := d) (h := fp h F P) hM hb ha hw hwf (fun r hr => hRC.1 a r ha hr) ⟨hM.1, r_itemsUnder (h := fp h F P) hM hb T (d + 18) _ hRC.2.1 hwf.2.2.2.2.2.2.1 (Or.inr (by omega)) ?_⟩⟩
  rw [nI_add, ← hcount_len hwf hw ha hp1]
  exact r_joinL hM hb ha hw hpos hG (24 - tr_rk T) (tr_rk T) hs T S F P (by omega) hwf hRC hT rfl (fun S' F' P' e1 e2 => ⟨rfl, k S' F' P' e1 e2⟩)
theorem NR.keep {ky S' : Nat → Int32} {b : Nat} (h1 : ∀ n j, n < 24 → j < 8 → S' (b + 8 * n + j) = S (b + 8 * n + j)) (h2 : ∀ t, t < 20 → S' (b + 300 + t) = S (b + 300 + t)) : ∀ {X : Tr}, NR ky S b X → NR ky S' b X
  | .leaf, _ => trivial
  | .inner _ k _ l r, ⟨g1, g2, g3⟩ => ⟨g1.congr (fun w hw => h1 _ _ g1.1 hw) (fun t ht => h2 t (g1.2.2.2.2.2.2.2.2.2.2 t ht)), g2.keep h1 h2, g3.keep h1 h2⟩
theorem r_puts {Q : pm_H → Prop} {tvf : Int32 → Nat → Int32 → Int32} {a b w t : Nat} {A : AF} (hM : Mk h) (hb : b + 320 ≤ 4485) (ha : a < 3) (ht : t < 20) (hw : w + 1 ≤ 1000) (hpos : ∀ al r t, 0 < tvf al r t) (hG : GRc G (d + 20) h tvf) (hA : okA A w) (hC : RA (gi h 460) S b A) (hn : A.2.1 t = -1)
    (k : ∀ S' F' P', RA (gi h 460) S' b (putA (rLt (gi h 460)) tvf A t a) → RZ S S' b → Q (s8 (fp h F' P') S')) : cv G (d + 22) m_X12_puts [.ref 446, .int (nI b), .int (nI t), .int (nI a)] (s8 (fp h F P) S) Q := by
  obtain ⟨hM, hk1, hk2, -, -⟩ := hM
  have hMf : ∀ F P, Md (fp h F P) := fun F P => hM
  obtain ⟨w1, x1, x2, x3⟩ := wf_leaf hA.1 ht (hA.free ht hn)
  have hlive := hC.1.live hA.1 (by omega)
  rw [show tr_ids .leaf = [] from rfl, List.append_nil] at hlive
  have hfree := hC.1.2.2
  rw [show tr_ids .leaf = [] from rfl, List.append_nil] at hfree
  have hta := hA.free ht hn
  unfold putA at k
  generalize hx : lfree (aids A.1 ++ []) = x at *
  refine cv_wp rfl (Nat.le_of_ble_eq_true rfl) rfl (x_X12_puts ?_)
  refine ⟨hM.1, r_freeNode (d := d + 19) (x := x) (hMf F P) hb x1 (hfree x x1 x2) (fun j hj => hlive j (x3 j hj)) ⟨hM.1, r_makes (d := d + 18) (hMf F P) (by omega) ?_⟩⟩
  have g21 : ∀ S', gp (s8 (fp h F P) S') 446 21 = 460 := fun _ => hk1
  have g17 : ∀ S', gp (s8 (fp h F P) S') 446 17 = 458 := fun _ => hM.2.1
  have hkk : ∀ S', gi (s8 (fp h F P) S') 460 = gi h 460 := fun S' => sfgi h S' F P (by decide) (by decide) (by decide)
  rw [g21, hkk, cl_nI (by omega)]
  refine ⟨hM.1, 20, hk2, vp_nI ht (by decide), r_lays (d := d + 20) (w := 2) (hMf F P) (by omega) ⟨hM.1, r_lays (d := d + 20) (w := 3) (hMf F P) (by omega) ⟨hM.1, r_lays (d := d + 20) (w := 4) (hMf F P) (by omega) ⟨hM.1, r_lays (d := d + 20) (w := 5) (hMf F P) (by omega) ?_⟩⟩⟩⟩
  have fr3 : RF S (up1 (up1 (up1 (up1 (up1 (up1 (up1 (up1 (fr8 S b x 8) (b + 8 * x) 0) (b + 8 * x + 1) 1) (b + 8 * x + 2) 0) (b + 8 * x + 3) 0) (b + 8 * x + 2) (gi h 460 t)) (b + 8 * x + 3) 1) (b + 8 * x + 4) (nI t)) (b + 8 * x + 5) (nI t)) b [x] [] :=
    ((((((((RF.fr (by simp)).trans (RF.u (w := 0) (by simp) (by decide))).trans (RF.u (w := 1) (by simp) (by decide))).trans (RF.u (w := 2) (by simp) (by decide))).trans (RF.u (w := 3) (by simp) (by decide))).trans (RF.u (w := 2) (by simp) (by decide))).trans (RF.u (w := 3) (by simp) (by decide))).trans (RF.u (w := 4) (by simp) (by decide))).trans (RF.u (w := 5) (by simp) (by decide))
  have e : ∀ S4, S4 = (up1 (up1 (up1 (up1 (up1 (up1 (up1 (up1 (fr8 S b x 8) (b + 8 * x) 0) (b + 8 * x + 1) 1) (b + 8 * x + 2) 0) (b + 8 * x + 3) 0) (b + 8 * x + 2) (gi h 460 t)) (b + 8 * x + 3) 1) (b + 8 * x + 4) (nI t)) (b + 8 * x + 5) (nI t)) → S4 (b + 8 * x) = 0 ∧ S4 (b + 8 * x + 1) = 1 ∧ S4 (b + 8 * x + 2) = gi h 460 t ∧ S4 (b + 8 * x + 3) = 1 ∧ S4 (b + 8 * x + 4) = nI t ∧ S4 (b + 8 * x + 5) = nI t ∧ S4 (b + 8 * x + 6) = -1 ∧ S4 (b + 8 * x + 7) = -1 := by
    rintro _ rfl
    refine ⟨?_, ?_, ?_, ?_, ?_, ?_, ?_, ?_⟩
    · rw [up1_ne _ _ (by omega), up1_ne _ _ (by omega), up1_ne _ _ (by omega), up1_ne _ _ (by omega), up1_ne _ _ (by omega), up1_ne _ _ (by omega), up1_ne _ _ (by omega), up1_at]
    · rw [up1_ne _ _ (by omega), up1_ne _ _ (by omega), up1_ne _ _ (by omega), up1_ne _ _ (by omega), up1_ne _ _ (by omega), up1_ne _ _ (by omega), up1_at]
    · rw [up1_ne _ _ (by omega), up1_ne _ _ (by omega), up1_ne _ _ (by omega), up1_at]
    · rw [up1_ne _ _ (by omega), up1_ne _ _ (by omega), up1_at]
    · rw [up1_ne _ _ (by omega), up1_at]
    · rw [up1_at]
    · rw [up1_ne _ _ (by omega), up1_ne _ _ (by omega), up1_ne _ _ (by omega), up1_ne _ _ (by omega), up1_ne _ _ (by omega), up1_ne _ _ (by omega), up1_ne _ _ (by omega), up1_ne _ _ (by omega)]
      exact if_pos ⟨by omega, by omega⟩
    · rw [up1_ne _ _ (by omega), up1_ne _ _ (by omega), up1_ne _ _ (by omega), up1_ne _ _ (by omega), up1_ne _ _ (by omega), up1_ne _ _ (by omega), up1_ne _ _ (by omega), up1_ne _ _ (by omega)]
      exact if_pos ⟨by omega, by omega⟩
  have e := e _ rfl
  generalize (up1 (up1 (up1 (up1 (up1 (up1 (up1 (up1 (fr8 S b x 8) (b + 8 * x) 0) (b + 8 * x + 1) 1) (b + 8 * x + 2) 0) (b + 8 * x + 3) 0) (b + 8 * x + 2) (gi h 460 t)) (b + 8 * x + 3) 1) (b + 8 * x + 4) (nI t)) (b + 8 * x + 5) (nI t)) = S4 at fr3 e ⊢
  obtain ⟨v0, v1, v2, v3, v4, v5, v6, v7⟩ := e
  rw [g17, show (300 : Int32) = nI 300 from rfl, show (260 : Int32) = nI 260 from rfl, show (280 : Int32) = nI 280 from rfl, ixg, ixg, ixg, cl_nI (show b + 300 + t < 2 ^ 31 by omega), cl_nI (show b + 260 + t < 2 ^ 31 by omega), cl_nI (show b + 280 + t < 2 ^ 31 by omega)]
  refine ⟨hM.1, 4485, hM.2.2, vp_nI (by omega) (by decide), ?_⟩
  rintro _ rfl
  rw [s8_si, g17]
  refine ⟨4485, hM.2.2, vp_nI (by omega) (by decide), ?_⟩
  rintro _ rfl
  rw [s8_si, g17]
  refine ⟨4485, hM.2.2, vp_nI (by omega) (by decide), ?_⟩
  rintro _ rfl
  rw [s8_si]
  have hs1 : ∀ i ∈ [x], i < 24 := fun i hi => by rw [List.mem_singleton] at hi; rw [hi]; exact x1
  have hs0 : ∀ i ∈ ([] : List Nat), i < 20 := fun i hi => by cases hi
  have f1 : ∀ n j, n < 24 → j < 8 → up1 (up1 (up1 S4 (b + 300 + t) (-1)) (b + 260 + t) (-1)) (b + 280 + t) (-1) (b + 8 * n + j) = S4 (b + 8 * n + j) := fun n j hn hj => by
    rw [up1_ne _ _ (by omega), up1_ne _ _ (by omega), up1_ne _ _ (by omega)]
  have f2 : ∀ u, u ≠ t → u < 20 → up1 (up1 (up1 S4 (b + 300 + t) (-1)) (b + 260 + t) (-1)) (b + 280 + t) (-1) (b + 300 + u) = S4 (b + 300 + u) := fun u hu hu2 => by
    rw [up1_ne _ _ (by omega), up1_ne _ _ (by omega), up1_ne _ _ (by omega)]
  have f3 : up1 (up1 (up1 S4 (b + 300 + t) (-1)) (b + 260 + t) (-1)) (b + 280 + t) (-1) (b + 300 + t) = -1 := by
    rw [up1_ne _ _ (by omega), up1_ne _ _ (by omega), up1_at]
  have f4 : ∀ u, u < 20 → up1 (up1 (up1 S4 (b + 300 + t) (-1)) (b + 260 + t) (-1)) (b + 280 + t) (-1) (b + 260 + u) = up1 A.2.2.1 t (-1) u ∧ up1 (up1 (up1 S4 (b + 300 + t) (-1)) (b + 260 + t) (-1)) (b + 280 + t) (-1) (b + 280 + u) = up1 A.2.2.2 t (-1) u := fun u hu => by
    have z1 : S4 (b + 260 + u) = S (b + 260 + u) := fr3.other hs1 hs0 (Or.inr (Or.inl ⟨by omega, by omega⟩))
    have z2 : S4 (b + 280 + u) = S (b + 280 + u) := fr3.other hs1 hs0 (Or.inr (Or.inl ⟨by omega, by omega⟩))
    by_cases q : u = t
    · subst q
      refine ⟨?_, ?_⟩
      · rw [up1_ne _ _ (by omega), up1_at, up1_at]
      · rw [up1_at, up1_at]
    · refine ⟨?_, ?_⟩
      · rw [up1_ne _ _ (by omega), up1_ne _ _ (by omega), up1_ne _ _ (by omega), up1_ne _ _ q, z1]; exact (hC.2 u hu).2.1
      · rw [up1_ne _ _ (by omega), up1_ne _ _ (by omega), up1_ne _ _ (by omega), up1_ne _ _ q, z2]; exact (hC.2 u hu).2.2
  have f5 : ∀ i, i < b ∨ (b + 192 ≤ i ∧ i < b + 260) ∨ b + 320 ≤ i → up1 (up1 (up1 S4 (b + 300 + t) (-1)) (b + 260 + t) (-1)) (b + 280 + t) (-1) i = S i := fun i hi => by
    rw [up1_ne _ _ (by omega), up1_ne _ _ (by omega), up1_ne _ _ (by omega)]
    exact fr3.other hs1 hs0 (by omega)
  generalize up1 (up1 (up1 S4 (b + 300 + t) (-1)) (b + 260 + t) (-1)) (b + 280 + t) (-1) = S5 at f1 f2 f3 f4 f5 ⊢
  have nT : RN (gi h 460) S5 b (x, 0, 1, t, [t]) (-1) (-1) := by
    have e1 := fun j hj => f1 x j x1 hj
    refine ⟨x1, (e1 0 (by decide)).trans v0, (e1 1 (by decide)).trans v1, fun _ => (e1 2 (by decide)).trans v2, (e1 3 (by decide)).trans v3, (e1 4 (by decide)).trans v4, fun _ => (e1 5 (by decide)).trans v5, (e1 6 (by decide)).trans v6, (e1 7 (by decide)).trans v7, ⟨f3, trivial⟩, fun u hu => ?_⟩
    have : u = t := by simpa [n_ls] using hu
    rw [this]; exact ht
  have rr : RR (gi h 460) S5 b A.1 (tn (x, 0, 1, t, [t]) .leaf .leaf) := by
    refine ⟨fun a' r' ha' hr' => ⟨?_, ?_⟩, ⟨nT, trivial, trivial⟩, fun j hj hj2 => ?_⟩
    · have hq : 24 * a' + r' < 72 := by omega
      have c4 : NR (gi h 460) S4 b (A.1 (24 * a' + r')) := fr3.nr hs1 (hC.1.1 a' r' ha' hr').1 (fun i hi q2 => by rw [List.mem_singleton] at q2; exact x2 (aids_mem.mpr ⟨_, hq, q2 ▸ hi⟩)) (fun i _ q2 => by cases q2)
      have keep2 : ∀ {X : Tr}, NR (gi h 460) S4 b X → t ∉ tr_its X → NR (gi h 460) S5 b X := by
        intro X
        induction X with
        | leaf => intro _ _; trivial
        | inner z kk u l r ihl ihr =>
          rintro ⟨g1, g2, g3⟩ hno
          refine ⟨g1.congr (fun w hw => f1 _ _ g1.1 hw) (fun u hu => f2 u (fun q => hno (List.mem_append_left _ (q ▸ hu))) (g1.2.2.2.2.2.2.2.2.2.2 u hu)), ihl g2 (fun q => hno (List.mem_append_right _ (List.mem_append_left _ q))), ihr g3 (fun q => hno (List.mem_append_right _ (List.mem_append_right _ q)))⟩
      exact keep2 c4 (fun q => hta (aits_mem.mpr ⟨_, hq, q⟩))
    · rw [f5 _ (Or.inr (Or.inl ⟨by omega, by omega⟩))]; exact (hC.1.1 a' r' ha' hr').2
    · have hjx : j ∉ [x] := fun q => hj2 (List.mem_append_right _ (by rw [List.mem_singleton] at q; rw [q]; exact List.mem_cons_self))
      rw [show b + 8 * j = b + 8 * j + 0 from rfl, f1 j 0 hj (by decide), fr3.node hjx hj (by decide)]
      exact hfree j hj (fun q => hj2 (List.mem_append_left _ q))
  refine r_joins (T := tn (x, 0, 1, t, [t]) .leaf .leaf) (hp := up1 A.2.1 t (nI a)) hM hb ha hw hpos hG w1 rr rfl (fun u hu => ?_) (fun S6 F' P' rr6 rj6 => ?_)
  · by_cases q : u = t
    · rw [q, up1_at]
      exact ⟨fun _ => Or.inr (by simp [tr_its, n_ls]), fun _ => rfl⟩
    · rw [up1_ne _ _ q, hA.2.2 u a hu ha, hits_mem]
      exact ⟨Or.inl, fun y => y.elim id (fun z => absurd (by simpa [tr_its, n_ls] using z) q)⟩
  · have g17' : ∀ S', gp (s8 (fp h F' P') S') 446 17 = 458 := fun _ => hM.2.1
    rw [g17', show (240 : Int32) = nI 240 from rfl, ixg, cl_nI (show b + 240 + t < 2 ^ 31 by omega)]
    refine ⟨hM.1, 4485, hM.2.2, vp_nI (by omega) (by decide), ?_⟩
    rintro _ rfl
    rw [s8_si]
    refine ⟨rfl, k _ F' P' ⟨⟨fun a' r' ha' hr' => ⟨?_, ?_⟩, trivial, fun j hj hj2 => ?_⟩, fun u hu => ?_⟩ (fun i hi => ?_)⟩
    · exact NR.keep (fun n j hn hj => up1_ne _ _ (by omega)) (fun u hu => up1_ne _ _ (by omega)) (rr6.1 a' r' ha' hr').1
    · rw [up1_ne _ _ (by omega)]; exact (rr6.1 a' r' ha' hr').2
    · rw [up1_ne _ _ (by omega)]; exact rr6.2.2 j hj hj2
    · have y1 : S6 (b + 240 + u) = S (b + 240 + u) := (rj6 _ (Or.inr (Or.inl ⟨by omega, by omega⟩))).trans (f5 _ (Or.inr (Or.inl ⟨by omega, by omega⟩)))
      have y2 : S6 (b + 260 + u) = S5 (b + 260 + u) := rj6 _ (Or.inr (Or.inl ⟨by omega, by omega⟩))
      have y3 : S6 (b + 280 + u) = S5 (b + 280 + u) := rj6 _ (Or.inr (Or.inl ⟨by omega, by omega⟩))
      obtain ⟨z1, z2⟩ := f4 u hu
      refine ⟨?_, ?_, ?_⟩
      · by_cases q : u = t
        · subst q; exact (up1_at _ _ _).trans (up1_at _ _ _).symm
        · rw [up1_ne _ _ (by omega), y1, (hC.2 u hu).1]; exact (up1_ne _ _ q).symm
      · rw [up1_ne _ _ (by omega), y2, z1]
      · rw [up1_ne _ _ (by omega), y3, z2]
    · rw [up1_ne _ _ (by omega), rj6 i (by omega), f5 i (by omega)]
end RPU
