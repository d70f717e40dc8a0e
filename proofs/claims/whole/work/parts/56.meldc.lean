/-! MELD, as the class does it -/
def mvM (M : Nat → Nat → Int32) (f : Nat) (v : Int32) (its : List Nat) (k : Nat) : Nat → Nat → Int32 := fun x j => if x = f + 26 ∧ j < k ∧ j ∈ its then v else M x j
theorem mvM_0 (M : Nat → Nat → Int32) (f : Nat) (v : Int32) (its : List Nat) : mvM M f v its 0 = M := by
  funext x j; unfold mvM; rw [if_neg (fun q => by omega)]
theorem mvM_ne {M : Nat → Nat → Int32} {f : Nat} {v : Int32} {its : List Nat} {k x : Nat} (h : x ≠ f + 26) : mvM M f v its k x = M x := by
  funext j; unfold mvM; rw [if_neg (fun q => h q.1)]
theorem mvM_in {M : Nat → Nat → Int32} {f : Nat} {v : Int32} {its : List Nat} {k : Nat} (h : k ∈ its) : pm_u (mvM M f v its k) (f + 26) k v = mvM M f v its (k + 1) := by
  funext x j
  unfold pm_u mvM
  by_cases hx : x = f + 26
  · by_cases hj : j = k
    · subst hj; simp [hx, h]
    · by_cases h2 : j < k
      · simp [hx, hj, h2, show j < k + 1 by omega]
      · simp [hx, hj, h2, show ¬ j < k + 1 by omega]
  · simp [hx]
theorem mvM_out {M : Nat → Nat → Int32} {f : Nat} {v : Int32} {its : List Nat} {k : Nat} (h : k ∉ its) : mvM M f v its (k + 1) = mvM M f v its k := by
  funext x j
  unfold mvM
  by_cases hj : j = k
  · subst hj; rw [if_neg (fun q => h q.2.2), if_neg (fun q => h q.2.2)]
  · by_cases h2 : x = f + 26 ∧ j < k ∧ j ∈ its
    · rw [if_pos h2, if_pos ⟨h2.1, by omega, h2.2.2⟩]
    · rw [if_neg h2, if_neg (fun q => h2 ⟨q.1, by omega, q.2.2⟩)]
theorem NC.noId {M : Nat → Nat → Int32} {f : Nat} {p : Int32} {T : Tr} (h : NC M f p T) (hl : isL T = false) : ∃ x, x < 24 ∧ tr_no T = nI x ∧ x ∈ tr_ids T := by
  cases T with
  | leaf => cases hl
  | inner z k u l r => exact ⟨k.1, h.1.1, rfl, List.mem_cons_self⟩
theorem wf.lt24 {hs : Hs} {T : Tr} {w q : Nat} (h : wf hs T w) (hq : q < 72) : tr_rk (hs q) < 24 := by
  cases hz : hs q with
  | leaf => exact (by decide : (0 : Nat) < 24)
  | inner a b c l r =>
    have := (h.2.2.2.2.1 q hq).2.2 (by rw [hz]; rfl)
    rw [hz] at this
    omega
section MEL
variable {G : pm_G} {d : Nat} {h : pm_H} {f : Nat}
theorem s_meldItems {post : pm_PT} {hs : Hs} {T : Tr} {w : Nat} {M : Nat → Nat → Int32} {x1 : Int32} {rr b : Nat} (hF : Fa h f) (hRC : RC M f hs T) (hwf : wf hs T w) (hT : isL T = false) (hw : w ≤ 1000)
    (k : cv G (d + 2) m_X0_join [.ref f, .int (tr_no T), .int (nI b)] (sm h (mvM M f (nI b) (tr_its T) 20)) fun h2 => Wp G (m_X0_meldInto, d + 3, 0, 0, post) (0, 0) 9 [.ref f, .int x1, .int (nI b), .int (nI (rr + 1)), .null, .null] [] h2) :
    Wp G (m_X0_meldInto, d + 3, 0, 0, post) (0, 0) 51 [.ref f, .int x1, .int (nI b), .int (nI rr), .int (tr_no T), .int 0] [] (sm h M) := by
  have key := up_to (P := fun n => Wp G (m_X0_meldInto, d + 3, 0, 0, post) (0, 0) 51 [.ref f, .int x1, .int (nI b), .int (nI rr), .int (tr_no T), .int (nI n)] [] (sm h (mvM M f (nI b) (tr_its T) n))) 20 (fun n hn ih => ?_) ?_
  · rw [mvM_0] at key; exact key
  · refine x_X0_meldInto_51 ?_
    rw [if_neg (li_no 20 20 rfl hn (by decide))]
    have hFm : Fa (sm h (mvM M f (nI b) (tr_its T) n)) f := hF
    refine ⟨hF.1, f_at12 hFm ?_⟩
    have e24 : gi (sm h (mvM M f (nI b) (tr_its T) n)) (f + 24) = M (f + 24) := mvM_ne (by omega)
    rw [rd_in hn (by decide), e24]
    have rows : ∀ {X : Tr}, NC M f (-1) X → NC (gi (sm h (mvM M f (nI b) (tr_its T) n))) f (-1) X := fun hX => hX.rows fun q hq _ => mvM_ne (by omega)
    obtain ⟨x, hx, hx2, hx3⟩ := hRC.2.1.noId hT
    by_cases c : n ∈ tr_its T
    · obtain ⟨j, hj, hj2⟩ := hRC.2.1.node c
      rw [hj2]
      refine ⟨hF.1, s_rootOver (d := d) hFm (rows hRC.2.1) hwf.2.2.2.2.2.2.1 hj (by have := hwf.rk hT hw; omega) ?_⟩
      rw [if_pos rfl]
      refine ⟨hF.1, f_set13 hFm ?_⟩
      rw [wr_in hn (by decide), show gi (sm h (mvM M f (nI b) (tr_its T) n)) = mvM M f (nI b) (tr_its T) n from rfl, mvM_in c, nI_1]
      exact ih
    · rw [mvM_out c] at ih
      by_cases c2 : n ∈ aits hs
      · obtain ⟨q, hq, hq2⟩ := aits_mem.mp c2
        obtain ⟨j, hj, hj2⟩ := (hRC.1 q hq).1.node hq2
        rw [hj2]
        refine ⟨hF.1, s_rootOver (d := d) hFm (rows (hRC.1 q hq).1) (hwf.2.2.2.2.1 q hq).2.1 hj (hwf.lt24 hq) ?_⟩
        have hne : isL (hs q) = false := by
          cases hz : hs q with
          | leaf => rw [hz] at hj; cases hj
          | inner => rfl
        obtain ⟨y, hy, hy2, hy3⟩ := (hRC.1 q hq).1.noId hne
        rw [hy2, hx2, if_neg (fun z => by
          rw [nI_eq (by omega) (by omega)] at z
          exact (List.nodup_append.mp hwf.1).2.2 y (aids_mem.mpr ⟨q, hq, hy3⟩) x hx3 z), nI_1]
        rw [hx2] at ih
        exact ih
      · rw [hRC.2.2.2 n hn (fun q => (List.mem_append.mp q).elim c2 c)]
        refine ⟨hF.1, s_rootOver0 (d := d) hFm ?_⟩
        rw [hx2, if_neg (fun z => nI_nm1 (by omega) z.symm), nI_1]
        rw [hx2] at ih
        exact ih
  · refine x_X0_meldInto_51 ?_
    rw [if_pos (li_yes 20 20 rfl)]
    refine ⟨hF.1, ?_⟩
    rw [nI_1]
    exact k
theorem s_meldInto {Q : Int32 → pm_H → Prop} {tvf : Int32 → Nat → Int32 → Int32} {a b w : Nat} {A : AF} (hF : Fa h f) (hL : Lw h) (hf : 30 ≤ f) (ha : a < 3) (hb : b < 3) (hw : w ≤ 1000) (hpos : ∀ al r t, 0 < tvf al r t) (hTV : TVc G d h tvf) (hA : okA A w) (hC : CF (gi h) f A)
    (k0 : a = b → Q 0 h) (k1 : a ≠ b → ∀ M', CF M' f (meldA (kLt (gf h 16)) tvf A a b) → FX (gi h) M' f → Q 1 (sm h M')) : ci G (d + 6) m_X0_meldInto [.ref f, .int (nI a), .int (nI b)] h Q := by
  refine ci_wp rfl (Nat.le_of_ble_eq_true rfl) rfl (x_X0_meldInto ?_)
  by_cases hab : a = b
  · rw [if_pos (by rw [hab])]; exact ⟨_, rfl, k0 hab⟩
  · rw [if_neg (fun q => hab ((nI_eq (by omega) (by omega)).mp q))]
    have k1 := k1 hab
    have key := up_to (P := fun n => ∀ M, CF M f (meldF (kLt (gf h 16)) tvf a b n A) → FX (gi h) M f → Wp G (m_X0_meldInto, d + 6, 0, 0, fun v h1 => ∃ r, v = some (.int r) ∧ Q r h1) (0, 0) 9 [.ref f, .int (nI a), .int (nI b), .int (nI n), .null, .null] [] (sm h M)) 24 (fun n hn ih => ?_) ?_
    · exact key (gi h) hC FX.rfl'
    · intro M hCM hX
      have hok := okA_meldF (lt := kLt (gf h 16)) (tvf := tvf) hA ha hb hab hw hpos n (by omega)
      have ih : ∀ M, CF M f (moveA (kLt (gf h 16)) tvf (meldF (kLt (gf h 16)) tvf a b n A) a b n) → FX (gi h) M f → _ := ih
      generalize meldF (kLt (gf h 16)) tvf a b n A = B at hCM hok ih
      have hFm : ∀ M, Fa (sm h M) f := fun M => hF
      refine x_X0_meldInto_9 ?_
      rw [if_neg (li_no 24 24 rfl hn (by decide))]
      have hq : 24 * a + n < 72 := by omega
      refine ⟨hF.1, s_slot (d := d + 4) (by omega) hn (f_at10 (hFm M) ?_)⟩
      obtain ⟨c1, c2⟩ := hCM.1.1 _ hq
      rw [rd_in hq (by decide), show gi (sm h M) (f + 20) (24 * a + n) = _ from c2]
      have hm1 := tr_no_m1 c1
      by_cases hX2 : isL (B.1 (24 * a + n)) = true
      · rw [if_pos (hm1.mpr hX2), nI_1]
        refine ih M ?_ hX
        rw [moveA, if_pos hX2]
        exact hCM
      · have hX' : isL (B.1 (24 * a + n)) = false := by simpa using hX2
        rw [if_neg (fun z => hX2 (hm1.mp z))]
        unfold moveA at ih
        rw [if_neg hX2] at ih
        refine ⟨hF.1, s_slot (d := d + 4) (by omega) hn (f_set10 (hFm M) ?_)⟩
        rw [wr_in hq (by decide)]
        dsimp only [gi, sm]
        obtain ⟨w1, w2⟩ := wf_out hok.1 hq hX'
        have w2 : tr_rk (B.1 (24 * a + n)) = n := by omega
        have pi := aids_up (hs := B.1) (q := 24 * a + n) .leaf hq
        have pt := aits_up (hs := B.1) (q := 24 * a + n) .leaf hq
        rw [show tr_ids .leaf = [] from rfl, List.nil_append] at pi
        rw [show tr_its .leaf = [] from rfl, List.nil_append] at pt
        have row1 : ∀ q', q' ≠ 10 → pm_u M (f + 20) (24 * a + n) (-1) (f + 2 * q') = M (f + 2 * q') := fun q' h10 => pm_u_ne _ _ _ (by omega)
        have row10 : ∀ q', pm_u M (f + 20) (24 * a + n) (-1) (f + 20) q' = if q' = 24 * a + n then -1 else M (f + 20) q' := fun q' => by simp [pm_u]
        have fx1 : FX (gi h) (pm_u M (f + 20) (24 * a + n) (-1)) f := hX.trans (FX.u (q := 10) (by decide))
        have rc1 : RC (pm_u M (f + 20) (24 * a + n) (-1)) f (up1 B.1 (24 * a + n) .leaf) (B.1 (24 * a + n)) := by
          refine ⟨fun q hq2 => ⟨?_, ?_⟩, c1.rows fun q' _ h10 => row1 q' h10, fun j hj hj2 => ?_, fun u hu hu2 => ?_⟩
          · by_cases z : q = 24 * a + n
            · rw [z, up1_at]; trivial
            · rw [up1_ne _ _ z]; exact (hCM.1.1 q hq2).1.rows fun q' _ h10 => row1 q' h10
          · rw [row10]
            by_cases z : q = 24 * a + n
            · rw [if_pos z, z, up1_at]; rfl
            · rw [if_neg z, up1_ne _ _ z]; exact (hCM.1.1 q hq2).2
          · rw [show pm_u M (f + 20) (24 * a + n) (-1) (f + 2) = M (f + 2) from row1 1 (by decide)]
            refine hCM.1.2.2.1 j hj fun q => hj2 ?_
            rw [show tr_ids .leaf = [] from rfl, List.append_nil] at q
            exact pi.mem_iff.mpr q
          · rw [show pm_u M (f + 20) (24 * a + n) (-1) (f + 24) = M (f + 24) from row1 12 (by decide)]
            refine hCM.1.2.2.2 u hu fun q => hu2 ?_
            rw [show tr_its .leaf = [] from rfl, List.append_nil] at q
            exact pt.mem_iff.mpr q
        have r13 : ∀ u, u < 20 → pm_u M (f + 20) (24 * a + n) (-1) (f + 26) u = B.2.1 u ∧ pm_u M (f + 20) (24 * a + n) (-1) (f + 28) u = B.2.2.1 u ∧ pm_u M (f + 20) (24 * a + n) (-1) (f + 30) u = B.2.2.2 u := fun u hu => by
          rw [show pm_u M (f + 20) (24 * a + n) (-1) (f + 26) = M (f + 26) from row1 13 (by decide), show pm_u M (f + 20) (24 * a + n) (-1) (f + 28) = M (f + 28) from row1 14 (by decide), show pm_u M (f + 20) (24 * a + n) (-1) (f + 30) = M (f + 30) from row1 15 (by decide)]
          exact hCM.2 u hu
        generalize pm_u M (f + 20) (24 * a + n) (-1) = M1 at rc1 r13 fx1 ⊢
        have hits := w1.2.2.1
        refine s_meldItems (d := d + 3) hF rc1 w1 hX' hw ?_
        have rows : ∀ q', q' ≠ 13 → mvM M1 f (nI b) (tr_its (B.1 (24 * a + n))) 20 (f + 2 * q') = M1 (f + 2 * q') := fun q' hq' => mvM_ne (by omega)
        have fx2 : FX (gi h) (mvM M1 f (nI b) (tr_its (B.1 (24 * a + n))) 20) f := fx1.trans fun x hx _ => mvM_ne (hx 13 (by decide))
        have r13' : ∀ u, u < 20 → mvM M1 f (nI b) (tr_its (B.1 (24 * a + n))) 20 (f + 26) u = if u ∈ tr_its (B.1 (24 * a + n)) then nI b else B.2.1 u := fun u hu => by
          unfold mvM
          by_cases z : u ∈ tr_its (B.1 (24 * a + n))
          · rw [if_pos ⟨rfl, hu, z⟩, if_pos z]
          · rw [if_neg (fun q => z q.2.2), if_neg z]; exact (r13 u hu).1
        have rc2 : RC (mvM M1 f (nI b) (tr_its (B.1 (24 * a + n))) 20) f (up1 B.1 (24 * a + n) .leaf) (B.1 (24 * a + n)) := by
          refine ⟨fun q hq2 => ⟨?_, ?_⟩, rc1.2.1.rows fun q' hq' _ => rows q' (by omega), fun j hj hj2 => ?_, fun u hu hu2 => ?_⟩
          · exact (rc1.1 q hq2).1.rows fun q' hq' _ => rows q' (by omega)
          · exact (congrFun (rows 10 (by decide)) q).trans (rc1.1 q hq2).2
          · exact (congrFun (rows 1 (by decide)) j).trans (rc1.2.2.1 j hj hj2)
          · exact (congrFun (rows 12 (by decide)) u).trans (rc1.2.2.2 u hu hu2)
        have r14 : ∀ u, u < 20 → mvM M1 f (nI b) (tr_its (B.1 (24 * a + n))) 20 (f + 28) u = B.2.2.1 u ∧ mvM M1 f (nI b) (tr_its (B.1 (24 * a + n))) 20 (f + 30) u = B.2.2.2 u := fun u hu => ⟨(congrFun (rows 14 (by decide)) u).trans (r13 u hu).2.1, (congrFun (rows 15 (by decide)) u).trans (r13 u hu).2.2⟩
        have e0 : sm (h.1, M1, h.2.2) (mvM M1 f (nI b) (tr_its (B.1 (24 * a + n))) 20) = sm h (mvM M1 f (nI b) (tr_its (B.1 (24 * a + n))) 20) := rfl
        generalize hM2 : mvM M1 f (nI b) (tr_its (B.1 (24 * a + n))) 20 = M2 at rc2 r13' r14 fx2 ⊢
        refine s_join (h := sm h M2) (T := B.1 (24 * a + n)) (w := w) (hp := fun u => if u ∈ tr_its (B.1 (24 * a + n)) then nI b else B.2.1 u) hF hL hf hb hw hpos (hTV.sm fun x hx => fx2.law hf hx) w1 rc2 hX' r13' (fun M3 rc3 fj => ?_)
        rw [w2] at rc3
        have e : ∀ x, x = 13 ∨ x = 14 ∨ x = 15 → M3 (f + 2 * x) = M2 (f + 2 * x) := fun x hx => fj _ (fun q hq => by omega) (by omega)
        refine ih M3 ⟨rc3, fun u hu => ⟨?_, ?_, ?_⟩⟩ (fx2.trans fj.fx)
        · exact (congrFun (e 13 (Or.inl rfl)) u).trans (r13' u hu)
        · exact (congrFun (e 14 (Or.inr (Or.inl rfl))) u).trans (r14 u hu).1
        · exact (congrFun (e 15 (Or.inr (Or.inr rfl))) u).trans (r14 u hu).2
    · intro M hCM hX
      refine x_X0_meldInto_9 ?_
      rw [if_pos (li_yes 24 24 rfl)]
      exact ⟨_, rfl, k1 M hCM hX⟩
end MEL
