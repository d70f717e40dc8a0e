/-! WHAT IS SHUT BEHIND ITSELF: the answers -/
abbrev cmL (s : Sta) (a : Nat) : List Nat := comL (ltP (sP s)) a (sA s)
abbrev shS (s : Sta) (x : Int32) : Sta := if inB (pHn (sP s)) x = true then stN s (sN s + 1) else s
def aFirst (s : Sta) (x : Int32) : Int32 := if inB (pHn (sP s)) x = true then hdI (cmL s (ix x)) else -1
def aWrongs (s : Sta) (x : Int32) : Int32 := if inB (pHn (sP s)) x = true then nI (wrF (ltP (sP s)) (cmL s (ix x)) (cmL s (ix x)).length) else -1
def aFar (s : Sta) (x : Int32) : Int32 := if inB (pHn (sP s)) x = true then farF (ahP (sP s)) (cmL s (ix x)) (cmL s (ix x)).length else -1
def splO (s : Sta) (a : Nat) : Option Nat := grL (ahP (sP s)) (thd (cmL s a).length) none (cmL s a)
def aheI (s : Sta) (a t : Nat) : Int32 := nI (cnt (fun u => decide ((sA s).2.1 u = nI a) && ahP (sP s) u t) 20)
def aSplit (s : Sta) (x y : Int32) : Int32 := if inB (pHn (sP s)) x = true then (if inB 2 y = true then (match splO s (ix x) with
  | none => -1
  | some t => if y = 0 then nI t else aheI s (ix x) t) else -1) else -1
def aSteps (s : Sta) (x y : Int32) : Int32 := if inB (pHn (sP s)) x = true then (match fnd (selP (ahP (sP s)) (sA s).2.1 (nI (ix x)) y) 20 with
  | none => -1
  | some g => stF (ahP (sP s)) (ltP (sP s)) (tvP (sP s)) g 20 1 (fun t => decide ((sA s).2.1 t = nI (ix x)))) else -1
def smP (s : Sta) (a : Nat) : Nat := sumS (ksP (sP s)) (cmL s a) (cmL s a).length
def aWorth (s : Sta) (x : Int32) : Int32 := if inB (pHn (sP s)) x = true then nI (smP s (ix x)) else -1
def aMean (s : Sta) (x : Int32) : Int32 := if inB (pHn (sP s)) x = true then (if (cmL s (ix x)).length = 0 then 0 else nI (divS (smP s (ix x)) (whoS (cmL s (ix x)).length))) else -1
def ktP (s : Sta) : Nat → Nat → Int32 := ktF (ltP (sP s)) (kdP (sP s)) (sA s)
def aWho (s : Sta) : Int32 := whoI (fitB (ktP s) (sS s)) (pHn (sP s))
def popI (m : Int32) : Int32 := nI (pop8 (ix m))
def aAsk (s : Sta) : Int32 := (askF (ktP s) (aWho s) (popI (aWho s)) (pHn (sP s)) 40).2
noncomputable def livS (s : Sta) (g n : Nat) : Nat × AF := livF (ltP (sP s)) (tvP (sP s)) (kdP (sP s)) (skP (sP s)) (pHn (sP s)) (pN (sP s)) n g (sA s)
def dayB (x y z : Int32) : Bool := inB 10000 x && ((inB 100 y && !decide (y = 0)) && inB 3 z)
noncomputable def aDays (s : Sta) (x y z : Int32) : Int32 := if dayB x y z = true then (if z = 0 then nI (livS s (ix x) (ix y)).1 else if z = 1 then rsA (sP s) (livS s (ix x) (ix y)).2 else flo (livS s (ix x) (ix y)).2 (pN (sP s))) else -1
abbrev daS (s : Sta) (x y z : Int32) : Sta := if dayB x y z = true then stN s (sN s + 1) else s
def judS (s : Sta) : Int32 × AF := judL (ltP (sP s)) (tvP (sP s)) (kdP (sP s)) (skP (sP s)) (sW s) 0 (-1) (tellF (ltP (sP s)) (tvP (sP s)) (hmP (sP s)) (pN (sP s)))
def aJudged (s : Sta) (x : Int32) : Int32 := if inB 3 x = true then (if x = 0 then (judS s).1 else if x = 1 then flo (judS s).2 (pN (sP s)) else rsA (sP s) (judS s).2) else -2
theorem inB_le {n : Nat} {y : Int32} (hn : n < 2 ^ 30) (h0 : ¬ y < 0) : inB (n + 1) y = decide (y ≤ nI n) := by
  by_cases c : y ≤ nI n
  · rw [decide_eq_true c]
    refine inB_lt h0 (fun q => ?_) (by omega)
    rw [i_le, nI_toInt (by omega)] at q c
    omega
  · rw [decide_eq_false c]
    refine inB_no (Or.inr ?_) (by omega)
    rw [i_le, nI_toInt (by omega)] at c ⊢
    omega
theorem okN_com {N w a : Nat} {A : AF} (h : okN N A w) (hw : w ≤ 1000) (ha : a < 3) (lt : Nat → Nat → Bool) : (comL lt a A).Nodup ∧ (∀ t, t ∈ comL lt a A ↔ t < 20 ∧ inHp A a t = true) ∧ (comL lt a A).length ≤ 20 ∧ (∀ t ∈ comL lt a A, t < N ∧ t < 20) := by
  obtain ⟨a1, a2, a3⟩ := comF_ok (lt := lt) ha hw 20 A h.1 (cnt20 _)
  refine ⟨a1, a2, by rw [a3]; exact cnt20 _, fun t ht => ?_⟩
  obtain ⟨t20, b⟩ := (a2 t).mp ht
  refine ⟨?_, t20⟩
  by_cases c : t < N
  · exact c
  · have e := (h.out (by omega) t20).1
    unfold inHp at b
    rw [e] at b
    exact absurd (of_decide_eq_true b) (m1_nI (by omega))
theorem wrF_agr {N : Nat} {lt lt' : Nat → Nat → Bool} {l : List Nat} (ha : Agr N lt lt') (hl : ∀ t ∈ l, t < N) : ∀ n, n ≤ l.length → wrF lt l n = wrF lt' l n
  | 0, _ => rfl
  | n + 1, hn => by
    rw [wrF, wrF, wrF_agr ha hl n (by omega), cnt_eq (p := wrL lt l n) (q := wrL lt' l n) (fun i hi => ha _ _ (getD_mem hl (by omega)) (getD_mem hl (by omega)))]
theorem away_agr {N t : Nat} {ah ah' : Nat → Nat → Bool} {l : List Nat} (ha : Agr N ah ah') (hl : ∀ t ∈ l, t < N) (ht : t < N) : awayI ah l t = awayI ah' l t := by
  unfold awayI
  rw [cnt_eq (p := aheadL ah l t) (q := aheadL ah' l t) (fun i hi => ha _ _ (getD_mem hl hi) ht)]
theorem farF_agr {N : Nat} {ah ah' : Nat → Nat → Bool} {l : List Nat} (ha : Agr N ah ah') (hl : ∀ t ∈ l, t < N) : ∀ n, n ≤ l.length → farF ah l n = farF ah' l n
  | 0, _ => rfl
  | n + 1, hn => by rw [farF, farF, farF_agr ha hl n (by omega), away_agr ha hl (getD_mem hl (by omega))]
theorem chsF_c {lt : Nat → Nat → Bool} {tvf : Int32 → Nat → Int32 → Int32} {c c' : Nat → Bool} : ∀ n, (∀ t, t < n → c t = c' t) → chsF lt tvf c n = chsF lt tvf c' n
  | 0, _ => rfl
  | n + 1, h => by
    rw [chsF, chsF, chsF_c n (fun t ht => h t (by omega)), h n (Nat.lt_succ_self _)]
theorem stF_c {ah lt : Nat → Nat → Bool} {tvf : Int32 → Nat → Int32 → Int32} {g : Nat} : ∀ (n s : Nat) (c c' : Nat → Bool), (∀ t, t < 20 → c t = c' t) → stF ah lt tvf g n s c = stF ah lt tvf g n s c'
  | 0, _, _, _, _ => rfl
  | n + 1, s, c, c', h => by
    have e : splS ah lt tvf c = splS ah lt tvf c' := by unfold splS; rw [chsF_c 20 h]
    rw [stF, stF, e]
    cases splS ah lt tvf c' with
    | none => rfl
    | some f =>
      simp only
      split
      · rfl
      · exact stF_c n (s + 1) _ _ (fun t ht => by unfold keepC; rw [h t ht])
theorem stF_agr2 {N g : Nat} {ah ah' lt lt' : Nat → Nat → Bool} {tvf : Int32 → Nat → Int32 → Int32} {c : Nat → Bool} (ha : Agr N ah ah') (hl : Agr N lt lt') (hpos : ∀ al r g, 0 < tvf al r g) (hg : g < N) (n s : Nat) (hc : ∀ t, N ≤ t → t < 20 → c t = false) : stF ah lt tvf g n s c = stF ah' lt' tvf g n s c := by
  have e : ∀ t, t < 20 → c t = (fun t => decide (t < 20) && c t) t := fun t ht => by
    show c t = (decide (t < 20) && c t)
    rw [decide_eq_true ht, Bool.true_and]
  rw [stF_c n s c _ e, stF_c (ah := ah') (lt := lt') n s c _ e]
  refine stF_agr ha hl hpos hg n s _ (fun t ht => ?_)
  show (decide (t < 20) && c t) = false
  by_cases z : t < 20
  · rw [hc t ht z, Bool.and_false]
  · rw [decide_eq_false z, Bool.false_and]
theorem ktF_agr {N w a : Nat} {A : AF} {lt lt' : Nat → Nat → Bool} {kd kd' : Nat → Int32} (h : okN N A w) (hw : w ≤ 1000) (ha : a < 3) (hl : Agr N lt lt') (hk : ∀ t, t < N → kd t = kd' t) (i : Nat) : ktF lt kd A a i = ktF lt' kd' A a i := by
  unfold ktF
  rw [show comL lt a A = comL lt' a A from comF_agr hl ha 20 A h.lb]
  by_cases c : i < (comL lt' a A).length
  · rw [if_pos c, if_pos c]
    exact hk _ (getD_mem (fun t ht => ((okN_com h hw ha lt').2.2.2 t ht).1) c)
  · rw [if_neg c, if_neg c]
theorem fitB_agr {kt kt' : Nat → Nat → Int32} {sl : List Sn} {a : Nat} (h : ∀ i, kt a i = kt' a i) : fitB kt sl a = fitB kt' sl a := by
  unfold fitB
  congr 1
  funext x
  rw [h]
theorem whoI_agr {f f' : Nat → Bool} : ∀ {n : Nat}, (∀ a, a < n → f a = f' a) → whoI f n = whoI f' n
  | 0, _ => rfl
  | n + 1, h => by rw [whoI, whoI, whoI_agr (fun a ha => h a (by omega)), h n (Nat.lt_succ_self _)]
theorem askF_agr {kt kt' : Nat → Nat → Int32} {m al : Int32} {H : Nat} (h : ∀ a i, a < H → kt a i = kt' a i) : ∀ q, askF kt m al H q = askF kt' m al H q
  | 0 => rfl
  | q + 1 => by
    rw [askF, askF, askF_agr h q, cnt_eq (p := wouB kt m q) (q := wouB kt' m q) (fun a ha => by unfold wouB; rw [h a _ ha])]
theorem divS_ok {N n : Nat} {ks : Nat → Nat} {l : List Nat} (hK : ∀ t, t < N → Okx 110 140 (ks t)) (hl : ∀ t ∈ l, t < N) (hn : l.length = n) (h0 : n ≠ 0) (h20 : n ≤ 20) :
    (FP.fdiv (UInt32.ofNat (sumS ks l n)) (FP.i2f (nI n)) = UInt32.ofNat (divS (sumS ks l n) (whoS n)) ∧ Okx 4 250 (divS (sumS ks l n) (whoS n))) ∧ Okx 1 253 (sumS ks l n) ∧ Okx 1 253 (whoS n) ∧ whoS n ≠ 0 ∧ (sumS ks l n ≠ 0 → sgE (whoS n) + 2 ≤ sgE (sumS ks l n) + 127 ∧ sgE (sumS ks l n) + 127 ≤ sgE (whoS n) + 252) := by
  have sk := sum_ok hK hl n (by omega) h20
  obtain ⟨i1, i2, i3, i4⟩ := i2f_s (n := n) (by omega)
  have w0 : whoS n ≠ 0 := fun q => h0 (i4.mp q)
  have e1 := i2 h0
  have lg : n.log2 ≤ 4 := by
    have : n.log2 < 5 := (Nat.log2_lt h0).mpr (by omega)
    omega
  have sx : Okx 1 253 (sumS ks l n) := sk.mono (by decide) (by omega)
  have sy : Okx 1 253 (whoS n) := i3.mono (by decide) (by decide)
  have hb : sumS ks l n ≠ 0 → sgE (whoS n) + 2 ≤ sgE (sumS ks l n) + 127 ∧ sgE (sumS ks l n) + 127 ≤ sgE (whoS n) + 252 := by
    intro q
    unfold sgE
    rcases sk with z | ⟨z1, z2⟩
    · exact absurd z q
    · rw [e1]; omega
  obtain ⟨f1, f2⟩ := fdiv_s sx sy w0 hb
  refine ⟨⟨by rw [i1]; exact f1, ?_⟩, sx, sy, w0, hb⟩
  rcases f2 with z | ⟨z1, z2⟩
  · exact Or.inl z
  · by_cases q : sumS ks l n = 0
    · left; rw [q]; rfl
    · right
      unfold sgE at z1 z2
      rcases sk with y | ⟨y1, y2⟩
      · exact absurd y q
      · rw [e1] at z1 z2; omega
section CTR
variable {G : pm_G} {d : Nat} {h : pm_H} {s : Sta} {w : Nat}
theorem InvC.com {a : Nat} (i : InvC h s) (ok : okSta s w) (ha : a < 3) : comL (kLt (gf h 16)) a (sA s) = cmL s a := comF_agr (i.pl.agr ok.pl).1 ha 20 _ ok.a.lb
theorem Ord.at0 {M : Nat → Nat → Int32} {l : List Nat} (h : Ord M l) : M 92 0 = hdI l := by
  cases l with
  | nil => exact h.2.2 0 (Nat.le_refl _) (by decide)
  | cons t r => exact h.2.1 0 (Nat.succ_pos _)
theorem c_all {a : Nat} {Q : pm_H → Prop} (i : InvC h s) (ok : okSta s w) (hw : w ≤ 1000) (ha : a < pHn (sP s)) (k : ∀ M', Ord M' (cmL s a) → InvC (sm h M') s → FrA h (sm h M') → Q (sm h M')) : cv G (d + 5) m_X8_takeAll [.ref 90, .ref 59, .int (nI a)] h Q := by
  have n3 := ok.n3
  refine s_takeAll (d := d) i.la (by decide) (by decide) (by omega) hw ok.a.1 i.cf (fun M' hO hX => ?_)
  rw [i.com ok (by omega)] at hO
  exact k M' hO (i.ty hX.ty) (FrA.ty hX.ty)
theorem InvC.lens {a : Nat} (ok : okSta s w) (hw : w ≤ 1000) (ha : a < pHn (sP s)) : (cmL s a).length ≤ 20 ∧ (∀ t ∈ cmL s a, t < 20) ∧ ∀ t ∈ cmL s a, t < pN (sP s) := by
  have n3 := ok.n3
  obtain ⟨a1, a2, a3, a4⟩ := okN_com ok.a hw (show a < 3 by omega) (ltP (sP s))
  exact ⟨a3, fun t ht => (a4 t ht).2, fun t ht => (a4 t ht).1⟩
theorem c_first {x : Int32} {Q : Int32 → pm_H → Prop} (i : InvC h s) (ok : okSta s w) (hw : w ≤ 1000) (k : ∀ h', InvC h' (shS s x) → FrA h h' → Q (aFirst s x) h') : ci G (d + 6) m_X11_first [.ref 0, .int x] h Q := by
  have n3 := ok.n3
  unfold aFirst at k
  obtain ⟨o1, -⟩ := i.la.own
  refine ci_wp rfl (Nat.le_of_ble_eq_true rfl) rfl (x_X11_first ⟨o1, c_shutHeap (d := d + 3) i ok.pl (fun c => ?_) (fun c h1 _ i1 f1 => ?_)⟩)
  · rw [if_pos rfl]
    have k := k h (by rw [show shS s x = s from if_neg (by rw [c]; decide)]; exact i) FrA.rfl'
    rw [c, if_neg (by decide)] at k
    exact ⟨_, rfl, k⟩
  · rw [show shS s x = stN s (sN s + 1) from if_pos c, if_pos c] at k
    rw [if_neg (by decide)]
    obtain ⟨o1, o0, o_1, o_2, o3, o4, o5, o6, o7, -⟩ := i1.la.own
    obtain ⟨t0, t1, t2, t3, t4, t5, t6, t7, t8, t9⟩ := i1.la.tri
    rcases inB_or (n := pHn (sP s)) x (by omega) with c' | ⟨a, ha, rfl, c', cx⟩
    · rw [c] at c'; cases c'
    rw [cx] at k
    rw [o7, o6]
    refine ⟨o1, t0, c_all (d := d) i1 (okSta_stN ok) hw ha (fun M' hO i2 f2 => ?_)⟩
    rw [show gp (sm h1 M') 0 7 = 90 from o7, show gp (sm h1 M') 90 2 = 91 from t3]
    refine ⟨o1, t0, t6.1, row_at (d := d + 4) (h := sm h1 M') t6 ?_⟩
    rw [show rd (gi (sm h1 M') 92) 20 0 = M' 92 0 from rd_in (j := 0) (by decide) (by decide), hO.at0]
    exact ⟨_, rfl, k _ i2 (f1.trans f2)⟩
theorem c_wrongs {x : Int32} {Q : Int32 → pm_H → Prop} (i : InvC h s) (ok : okSta s w) (hw : w ≤ 1000) (k : ∀ h', InvC h' (shS s x) → FrA h h' → Q (aWrongs s x) h') : ci G (d + 6) m_X11_wrongs [.ref 0, .int x] h Q := by
  have n3 := ok.n3
  unfold aWrongs at k
  obtain ⟨o1, -⟩ := i.la.own
  refine ci_wp rfl (Nat.le_of_ble_eq_true rfl) rfl (x_X11_wrongs ⟨o1, c_shutHeap (d := d + 3) i ok.pl (fun c => ?_) (fun c h1 _ i1 f1 => ?_)⟩)
  · rw [if_pos rfl]
    have k := k h (by rw [show shS s x = s from if_neg (by rw [c]; decide)]; exact i) FrA.rfl'
    rw [c, if_neg (by decide)] at k
    exact ⟨_, rfl, k⟩
  · rw [show shS s x = stN s (sN s + 1) from if_pos c, if_pos c] at k
    rw [if_neg (by decide)]
    obtain ⟨o1, o0, o_1, o_2, o3, o4, o5, o6, o7, -⟩ := i1.la.own
    obtain ⟨t0, t1, t2, t3, t4, t5, t6, t7, t8, t9⟩ := i1.la.tri
    rcases inB_or (n := pHn (sP s)) x (by omega) with c' | ⟨a, ha, rfl, c', cx⟩
    · rw [c] at c'; cases c'
    rw [cx] at k
    rw [o7, o6]
    obtain ⟨l1, l2, l3⟩ := InvC.lens ok hw ha
    refine ⟨o1, t0, c_all (d := d) i1 (okSta_stN ok) hw ha (fun M' hO i2 f2 => ?_)⟩
    rw [show gp (sm h1 M') 0 7 = 90 from o7]
    refine ⟨o1, t0, s_wrongPairs (d := d + 3) (h := sm h1 M') i2.la hO l1 l2 ?_⟩
    rw [wrF_agr (i2.pl.agr ok.pl).1 l3 _ (Nat.le_refl _)]
    exact ⟨_, rfl, k _ i2 (f1.trans f2)⟩
theorem c_far {x : Int32} {Q : Int32 → pm_H → Prop} (i : InvC h s) (ok : okSta s w) (hw : w ≤ 1000) (k : ∀ h', InvC h' (shS s x) → FrA h h' → Q (aFar s x) h') : ci G (d + 6) m_X11_far [.ref 0, .int x] h Q := by
  have n3 := ok.n3
  unfold aFar at k
  obtain ⟨o1, -⟩ := i.la.own
  refine ci_wp rfl (Nat.le_of_ble_eq_true rfl) rfl (x_X11_far ⟨o1, c_shutHeap (d := d + 3) i ok.pl (fun c => ?_) (fun c h1 _ i1 f1 => ?_)⟩)
  · rw [if_pos rfl]
    have k := k h (by rw [show shS s x = s from if_neg (by rw [c]; decide)]; exact i) FrA.rfl'
    rw [c, if_neg (by decide)] at k
    exact ⟨_, rfl, k⟩
  · rw [show shS s x = stN s (sN s + 1) from if_pos c, if_pos c] at k
    rw [if_neg (by decide)]
    obtain ⟨o1, o0, o_1, o_2, o3, o4, o5, o6, o7, -⟩ := i1.la.own
    obtain ⟨t0, t1, t2, t3, t4, t5, t6, t7, t8, t9⟩ := i1.la.tri
    rcases inB_or (n := pHn (sP s)) x (by omega) with c' | ⟨a, ha, rfl, c', cx⟩
    · rw [c] at c'; cases c'
    rw [cx] at k
    rw [o7, o6]
    obtain ⟨l1, l2, l3⟩ := InvC.lens ok hw ha
    refine ⟨o1, t0, c_all (d := d) i1 (okSta_stN ok) hw ha (fun M' hO i2 f2 => ?_)⟩
    rw [show gp (sm h1 M') 0 7 = 90 from o7]
    refine ⟨o1, t0, s_farthest (d := d + 1) (h := sm h1 M') i2.la hO l1 l2 ?_⟩
    rw [farF_agr (i2.pl.agr ok.pl).2 l3 _ (Nat.le_refl _)]
    exact ⟨_, rfl, k _ i2 (f1.trans f2)⟩
theorem KyR.ok {hK : KyR h (sP s)} (i : InvC h s) (ok : okSta s w) : KyOK h (pN (sP s)) (ksP (sP s)) := fun t ht => ⟨hK t ht, (i.pl.2.2.2.2.1 t ht).2.2, ok.pl.key ht⟩
theorem KyR.of {h' : pm_H} {P : Pl} (hK : KyR h P) (f : FrA h h') : KyR h' P := fun t ht => (congrFun (f.2.1 460 (by decide)) t).trans (hK t ht)
theorem c_worth {x : Int32} {Q : Int32 → pm_H → Prop} (i : InvC h s) (ok : okSta s w) (hw : w ≤ 1000) (hK : KyR h (sP s)) (k : ∀ h', InvC h' (shS s x) → FrA h h' → Q (aWorth s x) h') : ci G (d + 6) m_X11_worth [.ref 0, .int x] h Q := by
  have n3 := ok.n3
  unfold aWorth at k
  obtain ⟨o1, -⟩ := i.la.own
  refine ci_wp rfl (Nat.le_of_ble_eq_true rfl) rfl (x_X11_worth ⟨o1, c_shutHeap (d := d + 3) i ok.pl (fun c => ?_) (fun c h1 _ i1 f1 => ?_)⟩)
  · rw [if_pos rfl]
    have k := k h (by rw [show shS s x = s from if_neg (by rw [c]; decide)]; exact i) FrA.rfl'
    rw [c, if_neg (by decide)] at k
    exact ⟨_, rfl, k⟩
  · rw [show shS s x = stN s (sN s + 1) from if_pos c, if_pos c] at k
    rw [if_neg (by decide)]
    obtain ⟨o1, o0, o_1, o_2, o3, o4, o5, o6, o7, -⟩ := i1.la.own
    obtain ⟨t0, t1, t2, t3, t4, t5, t6, t7, t8, t9⟩ := i1.la.tri
    rcases inB_or (n := pHn (sP s)) x (by omega) with c' | ⟨a, ha, rfl, c', cx⟩
    · rw [c] at c'; cases c'
    rw [cx] at k
    rw [o7, o6]
    obtain ⟨l1, l2, l3⟩ := InvC.lens ok hw ha
    refine ⟨o1, t0, c_all (d := d) i1 (okSta_stN ok) hw ha (fun M' hO i2 f2 => ?_)⟩
    rw [show gp (sm h1 M') 0 7 = 90 from o7]
    refine ⟨o1, t0, s_sum (d := d + 3) (h := sm h1 M') (N := pN (sP s)) (ks := ksP (sP s)) i2.la (KyR.ok (hK := hK.of (f1.trans f2)) (s := stN s (sN s + 1)) i2 (okSta_stN ok)) n3.2.2 hO l1 l3 ?_⟩
    have sk := sum_ok (ks := ksP (sP s)) (fun t ht => ok.pl.key ht) l3 _ (Nat.le_refl _) l1
    exact s_bitsOf (d := d + 4) (sk.mono (by decide) (by omega)) ⟨_, rfl, k _ i2 (f1.trans f2)⟩
theorem c_mean {x : Int32} {Q : Int32 → pm_H → Prop} (i : InvC h s) (ok : okSta s w) (hw : w ≤ 1000) (hK : KyR h (sP s)) (k : ∀ h', InvC h' (shS s x) → FrA h h' → Q (aMean s x) h') : ci G (d + 6) m_X11_mean [.ref 0, .int x] h Q := by
  have n3 := ok.n3
  unfold aMean at k
  obtain ⟨o1, -⟩ := i.la.own
  refine ci_wp rfl (Nat.le_of_ble_eq_true rfl) rfl (x_X11_mean ⟨o1, c_shutHeap (d := d + 3) i ok.pl (fun c => ?_) (fun c h1 _ i1 f1 => ?_)⟩)
  · rw [if_pos rfl]
    have k := k h (by rw [show shS s x = s from if_neg (by rw [c]; decide)]; exact i) FrA.rfl'
    rw [c, if_neg (by decide)] at k
    exact ⟨_, rfl, k⟩
  · rw [show shS s x = stN s (sN s + 1) from if_pos c, if_pos c] at k
    rw [if_neg (by decide)]
    obtain ⟨o1, o0, o_1, o_2, o3, o4, o5, o6, o7, -⟩ := i1.la.own
    obtain ⟨t0, t1, t2, t3, t4, t5, t6, t7, t8, t9⟩ := i1.la.tri
    rcases inB_or (n := pHn (sP s)) x (by omega) with c' | ⟨a, ha, rfl, c', cx⟩
    · rw [c] at c'; cases c'
    rw [cx] at k
    rw [o7, o6]
    obtain ⟨l1, l2, l3⟩ := InvC.lens ok hw ha
    refine ⟨o1, t0, c_all (d := d) i1 (okSta_stN ok) hw ha (fun M' hO i2 f2 => ?_)⟩
    rw [show gp (sm h1 M') 0 7 = 90 from o7, show gi (sm h1 M') 90 3 = nI (cmL s a).length from hO.1]
    refine ⟨o1, t0, ?_⟩
    by_cases c0 : (cmL s a).length = 0
    · rw [if_pos c0] at k
      rw [c0, if_pos (show nI 0 = 0 from rfl)]
      exact ⟨_, rfl, k _ i2 (f1.trans f2)⟩
    · rw [if_neg c0] at k
      rw [if_neg (nI_neq0 c0 (by omega))]
      refine s_sum (d := d + 3) (h := sm h1 M') (N := pN (sP s)) (ks := ksP (sP s)) i2.la (KyR.ok (hK := hK.of (f1.trans f2)) (s := stN s (sN s + 1)) i2 (okSta_stN ok)) n3.2.2 hO l1 l3 ?_
      obtain ⟨⟨e1, e2⟩, -⟩ := divS_ok (ks := ksP (sP s)) (fun t ht => ok.pl.key ht) l3 rfl c0 l1
      rw [show gp (sm h1 M') 0 7 = 90 from o7, show gi (sm h1 M') 90 3 = nI (cmL s a).length from hO.1, e1]
      refine ⟨o1, t0, e2.num (by decide), s_bitsOf (d := d + 4) e2 ⟨_, rfl, k _ i2 (f1.trans f2)⟩⟩
theorem c_split {x y : Int32} {Q : Int32 → pm_H → Prop} (i : InvC h s) (ok : okSta s w) (hw : w ≤ 1000) (k : ∀ h', InvC h' (shS s x) → FrA h h' → Q (aSplit s x y) h') : ci G (d + 7) m_X11_split [.ref 0, .int x, .int y] h Q := by
  have n3 := ok.n3
  unfold aSplit at k
  obtain ⟨o1, -⟩ := i.la.own
  refine ci_wp rfl (Nat.le_of_ble_eq_true rfl) rfl (x_X11_split ⟨o1, c_shutHeap (d := d + 4) i ok.pl (fun c => ?_) (fun c h1 _ i1 f1 => ?_)⟩)
  · rw [if_pos rfl]
    have k := k h (by rw [show shS s x = s from if_neg (by rw [c]; decide)]; exact i) FrA.rfl'
    rw [c, if_neg (by decide)] at k
    exact ⟨_, rfl, k⟩
  · rw [show shS s x = stN s (sN s + 1) from if_pos c, if_pos c] at k
    rw [if_neg (by decide)]
    obtain ⟨o1, o0, o_1, o_2, o3, o4, o5, o6, o7, -⟩ := i1.la.own
    obtain ⟨t0, t1, t2, t3, t4, t5, t6, t7, t8, t9⟩ := i1.la.tri
    rcases inB_or (n := pHn (sP s)) x (by omega) with c' | ⟨a, ha, rfl, c', cx⟩
    · rw [c] at c'; cases c'
    rw [cx] at k
    obtain ⟨l1, l2, l3⟩ := InvC.lens ok hw ha
    by_cases y0 : y < 0
    · rw [if_pos y0]
      rw [inB_no (Or.inl y0) (by decide), if_neg (by decide)] at k
      exact ⟨_, rfl, k _ i1 f1⟩
    rw [if_neg y0]
    by_cases y1 : y ≤ 1
    · have yb : inB 2 y = true := by rw [inB_le (n := 1) (by decide) y0]; exact decide_eq_true y1
      rw [yb, if_pos rfl] at k
      rw [if_pos y1, o7, o6]
      refine ⟨o1, t0, s_splitOf (d := d) i1.la (by decide) (by decide) (by omega) hw ok.a.1 i1.cf (fun M' hX => ?_)⟩
      have i2 := i1.ty hX.ty
      have f2 := f1.trans (FrA.ty hX.ty)
      rw [i1.com (okSta_stN ok) (by omega), grL_agr (i1.pl.agr ok.pl).2 _ none _ (fun b hb => by cases hb) l3]
      have k := k _ i2 f2
      have e : splO s a = grL (ahP (sP s)) (thd (cmL s a).length) none (cmL s a) := rfl
      rw [e] at k
      cases eg : grL (ahP (sP s)) (thd (cmL s a).length) none (cmL s a) with
      | none =>
        rw [eg] at k
        rw [if_pos (show oI none = -1 from rfl)]
        exact ⟨_, rfl, k⟩
      | some t =>
        rw [eg] at k
        have tm : t ∈ cmL s a := (grL_mem eg).elim (fun q => by cases q) id
        have t20 := l2 t tm
        rw [show oI (some t) = nI t from rfl, if_neg (nI_nm1 (by omega))]
        by_cases c0 : y = 0
        · have k : Q (if y = 0 then nI t else aheI s a t) _ := k
          rw [if_pos c0] at k ⊢
          exact ⟨_, rfl, k⟩
        · have k : Q (if y = 0 then nI t else aheI s a t) _ := k
          rw [if_neg c0] at k ⊢
          rw [show gp (sm h1 M') 0 6 = 59 from o6]
          have hF : Fa (sm h1 M') 59 := fa_of i2.la (by decide)
          refine ⟨o1, hF.1, s_aheadOf (d := d + 3) hF i2.la.lw.1 t20 (fun u hu => (i2.cf.2 u hu).1) ?_⟩
          rw [cnt_agr (q := fun u => ahC (gf (sm h1 M') 16) u t) (q' := fun u => ahP (sP s) u t) (fun u hu => (i2.pl.agr ok.pl).2 u t hu (l3 t tm)) (fun u hu1 hu2 => by
            rw [(ok.a.out hu1 hu2).1]; exact m1_nI (by omega))]
          exact ⟨_, rfl, k⟩
    · rw [if_neg y1]
      have yb : inB 2 y = false := by rw [inB_le (n := 1) (by decide) y0]; exact decide_eq_false y1
      rw [yb, if_neg (by decide)] at k
      exact ⟨_, rfl, k _ i1 f1⟩
theorem c_steps {x y : Int32} {Q : Int32 → pm_H → Prop} (i : InvC h s) (ok : okSta s w) (hw : w ≤ 1000) (k : ∀ h', InvC h' (shS s x) → FrA h h' → Q (aSteps s x y) h') : ci G (d + 9) m_X11_steps [.ref 0, .int x, .int y] h Q := by
  have n3 := ok.n3
  unfold aSteps at k
  obtain ⟨o1, -⟩ := i.la.own
  refine ci_wp rfl (Nat.le_of_ble_eq_true rfl) rfl (x_X11_steps ⟨o1, c_shutHeap (d := d + 6) i ok.pl (fun c => ?_) (fun c h1 _ i1 f1 => ?_)⟩)
  · rw [if_pos rfl]
    have k := k h (by rw [show shS s x = s from if_neg (by rw [c]; decide)]; exact i) FrA.rfl'
    rw [c, if_neg (by decide)] at k
    exact ⟨_, rfl, k⟩
  · rw [show shS s x = stN s (sN s + 1) from if_pos c, if_pos c] at k
    rw [if_neg (by decide)]
    obtain ⟨o1, o0, o_1, o_2, o3, o4, o5, o6, o7, -⟩ := i1.la.own
    obtain ⟨t0, t1, t2, t3, t4, t5, t6, t7, t8, t9⟩ := i1.la.tri
    rcases inB_or (n := pHn (sP s)) x (by omega) with c' | ⟨a, ha, rfl, c', cx⟩
    · rw [c] at c'; cases c'
    rw [cx] at k
    rw [o7, o6]
    have out : ∀ t, pN (sP s) ≤ t → t < 20 → ¬ (sA s).2.1 t = nI a := fun t h1 h2 => by rw [(ok.a.out h1 h2).1]; exact m1_nI (by omega)
    have es : fnd (selP (ahC (gf h1 16)) (sA s).2.1 (nI a) y) 20 = fnd (selP (ahP (sP s)) (sA s).2.1 (nI a) y) 20 := fnd_same (selP_agr (i1.pl.agr ok.pl).2 out)
    refine ⟨o1, t0, s_stepsTo (d := d) i1.la (by decide) (by decide) (by omega) (tvP_pos _) (i1.tv ok.pl) (fun t ht => (i1.cf.2 t ht).1) (fun e => ?_) (fun g e M' hX => ?_)⟩
    · rw [es] at e
      rw [e] at k
      exact ⟨_, rfl, k _ i1 f1⟩
    · rw [es] at e
      rw [e] at k
      have gN : g < pN (sP s) := by
        obtain ⟨g20, b⟩ := fnd_sm e
        unfold selP at b
        rw [Bool.and_eq_true] at b
        by_cases z : g < pN (sP s)
        · exact z
        · exact absurd (of_decide_eq_true b.1) (out g (by omega) g20)
      have i2 := i1.ty hX
      rw [stF_agr2 (i1.pl.agr ok.pl).2 (i1.pl.agr ok.pl).1 (tvP_pos _) gN 20 1 (fun t h1 h2 => decide_eq_false (out t h1 h2))]
      exact ⟨_, rfl, k _ i2 (f1.trans (FrA.ty hX))⟩
theorem InvC.kt {a j : Nat} (i : InvC h s) (ok : okSta s w) (hw : w ≤ 1000) (ha : a < 3) : ktF (kLt (gf h 16)) (gi h 13) (sA s) a j = ktP s a j := ktF_agr ok.a hw ha (i.pl.agr ok.pl).1 (fun t ht => (i.pl.2.2.2.2.1 t ht).1) j
theorem c_who {Q : Int32 → pm_H → Prop} (i : InvC h s) (ok : okSta s w) (hw : w ≤ 1000) (k : ∀ h', InvC h' (stN s (sN s + 1)) → FrA h h' → Q (aWho s) h') : ci G (d + 7) m_X11_who [.ref 0] h Q := by
  have n3 := ok.n3
  refine ci_wp rfl (Nat.le_of_ble_eq_true rfl) rfl (x_X11_who ⟨i.la.own.1, ?_⟩)
  rintro _ rfl
  rw [i.shut, show (1 : Int32) = nI 1 from rfl, nI_add]
  have i1 : InvC (si h 0 10 (nI (sN s + 1))) (stN s (sN s + 1)) := i.setN
  have f1 : FrA h (si h 0 10 (nI (sN s + 1))) := FrA.si (by decide)
  have g1 : (si h 0 10 (nI (sN s + 1))).1 = h.1 := rfl
  generalize si h 0 10 (nI (sN s + 1)) = h1 at *
  obtain ⟨o1, o0, o_1, o_2, o3, o4, o5, o6, o7, o8, -⟩ := i1.la.own
  obtain ⟨t0, -⟩ := i1.la.tri
  rw [o7, o6, ← g1]
  refine ⟨t0, s_foresee (d := d) (H := pHn (sP s)) i1.la (by decide) (by decide) n3.1 i1.hn.1 hw ok.a.1 i1.cf (fun M' hT hK => ?_)⟩
  have i2 := i1.ty hT
  rw [show gp (sm h1 M') 0 7 = 90 from o7, show gp (sm h1 M') 0 8 = 128 from o8, i2.see.1]
  refine ⟨o1, t0, s_fitting (d := d + 3) (H := pHn (sP s)) i2.la n3.1 i2.hn.1 hK i2.see.2 ok.s.2 ok.s.1 ?_⟩
  rw [whoI_agr (f := fitB (ktF (kLt (gf h1 16)) (gi h1 13) (sA s)) (sS s)) (f' := fitB (ktP s) (sS s)) (fun a ha => fitB_agr (fun j => i1.kt (okSta_stN ok) hw (by omega)))]
  exact ⟨_, rfl, k _ i2 (f1.trans (FrA.ty hT))⟩
theorem who_ix {f : Nat → Bool} {H : Nat} (hH : H ≤ 3) : ∃ m, m < 8 ∧ whoI f H = nI m ∧ ix (whoI f H) = m := by
  obtain ⟨m, h1, h2⟩ := who_sm (fit := f) hH
  exact ⟨m, h1, h2, by rw [h2]; exact ix_nI (by omega)⟩
theorem c_ask {Q : Int32 → pm_H → Prop} (i : InvC h s) (ok : okSta s w) (hw : w ≤ 1000) (k : ∀ h', InvC h' (stN s (sN s + 1)) → FrA h h' → Q (aAsk s) h') : ci G (d + 7) m_X11_ask [.ref 0] h Q := by
  have n3 := ok.n3
  refine ci_wp rfl (Nat.le_of_ble_eq_true rfl) rfl (x_X11_ask ⟨i.la.own.1, ?_⟩)
  rintro _ rfl
  rw [i.shut, show (1 : Int32) = nI 1 from rfl, nI_add]
  have i1 : InvC (si h 0 10 (nI (sN s + 1))) (stN s (sN s + 1)) := i.setN
  have f1 : FrA h (si h 0 10 (nI (sN s + 1))) := FrA.si (by decide)
  have g1 : (si h 0 10 (nI (sN s + 1))).1 = h.1 := rfl
  generalize si h 0 10 (nI (sN s + 1)) = h1 at *
  obtain ⟨o1, o0, o_1, o_2, o3, o4, o5, o6, o7, o8, -⟩ := i1.la.own
  obtain ⟨t0, -⟩ := i1.la.tri
  rw [o7, o6, ← g1]
  refine ⟨t0, s_foresee (d := d) (H := pHn (sP s)) i1.la (by decide) (by decide) n3.1 i1.hn.1 hw ok.a.1 i1.cf (fun M' hT hK => ?_)⟩
  have i2 := i1.ty hT
  have kt : ∀ a j, a < pHn (sP s) → ktF (kLt (gf h1 16)) (gi h1 13) (sA s) a j = ktP s a j := fun a j ha => i1.kt (okSta_stN ok) hw (by omega)
  rw [show gp (sm h1 M') 0 7 = 90 from o7, show gp (sm h1 M') 0 8 = 128 from o8, i2.see.1]
  refine ⟨o1, t0, s_fitting (d := d + 3) (H := pHn (sP s)) i2.la n3.1 i2.hn.1 hK i2.see.2 ok.s.2 ok.s.1 ?_⟩
  rw [whoI_agr (f := fitB (ktF (kLt (gf h1 16)) (gi h1 13) (sA s)) (sS s)) (f' := fitB (ktP s) (sS s)) (fun a ha => fitB_agr (fun j => kt a j ha))]
  obtain ⟨m, m8, em, ex⟩ := who_ix (f := fitB (ktP s) (sS s)) n3.1
  have k : ∀ h', InvC h' (stN s (sN s + 1)) → FrA h h' → Q (askF (ktP s) (nI m) (nI (pop8 m)) (pHn (sP s)) 40).2 h' := by
    unfold aAsk popI aWho at k
    rw [ex, em] at k
    exact k
  rw [em]
  refine ⟨t0, s_bestQuestion (d := d + 3) (H := pHn (sP s)) i2.la n3.1 i2.hn.1 hK m8 ?_⟩
  rw [askF_agr kt]
  exact ⟨_, rfl, k _ i2 (f1.trans (FrA.ty hT))⟩
theorem InvC_sj {J' : Nat → Nat → Int64} (i : InvC h s) (hJ : ∀ a, a ≠ 90 → J' a = gj h a) : InvC (sj h J') s := ⟨i.la, i.tx, i.pl.of (fun _ _ _ => rfl) (fun a h1 h2 => hJ a (by omega)) (fun _ _ _ => rfl), i.wk, i.cf, i.past, i.see, i.shut, i.mark⟩
theorem FrA_sj {J' : Nat → Nat → Int64} (hJ : ∀ a, a ≠ 90 → J' a = gj h a) : FrA h (sj h J') := ⟨rfl, fun _ _ => rfl, fun a ha => hJ a (by omega), fun _ _ _ => rfl⟩
theorem dayB_no {x y z : Int32} (h : ¬ dayB x y z = true) : dayB x y z = false := by simpa using h
theorem liv_ok (ok : okSta s w) (hw : w + 99 ≤ 1000) {g n : Nat} (hn : n ≤ 99) : ∀ lt kd skd, okN (pN (sP s)) (livF lt (tvP (sP s)) kd skd (pHn (sP s)) (pN (sP s)) n g (sA s)).2 (w + n) := by
  intro lt kd skd
  unfold livF
  split
  · exact ok.a.mono (by omega)
  next c => exact okN_day (by omega) ok.n3.1 (by omega) ok.n3.2.2 (tvP_pos _) n g 0 w (sA s) (by omega) ok.a
theorem liv_agr (ok : okSta s w) (hw : w + 99 ≤ 1000) {g n : Nat} (hn : n ≤ 99) {lt lt' : Nat → Nat → Bool} {kd skd kd' skd' : Nat → Int32} (ha : Agr (pN (sP s)) lt lt') (hk : ∀ t, t < pN (sP s) → kd t = kd' t) : livF lt (tvP (sP s)) kd skd (pHn (sP s)) (pN (sP s)) n g (sA s) = livF lt' (tvP (sP s)) kd' skd' (pHn (sP s)) (pN (sP s)) n g (sA s) := by
  unfold livF
  by_cases c : pHn (sP s) = 0 ∨ pN (sP s) = 0
  · rw [if_pos c, if_pos c]
  · rw [if_neg c, if_neg c]
    exact dayL_agr (by omega) ok.n3.1 (by omega) ok.n3.2.2 (tvP_pos _) ha hk n g 0 w (sA s) (by omega) ok.a
theorem dayB_is {x y z : Int32} (h : dayB x y z = true) : (∃ g n, g < 10000 ∧ x = nI g ∧ ix x = g ∧ 0 < n ∧ n < 100 ∧ y = nI n ∧ ix y = n) ∧ (z = 0 ∨ z = 1 ∨ z = 2) := by
  unfold dayB at h
  rw [Bool.and_eq_true, Bool.and_eq_true, Bool.and_eq_true] at h
  obtain ⟨h1, ⟨h2, h3⟩, h4⟩ := h
  rcases inB_or (n := 10000) x (by decide) with c | ⟨g, hg, e1, -, e2⟩
  · rw [c] at h1; cases h1
  rcases inB_or (n := 100) y (by decide) with c | ⟨n, hn, e3, -, e4⟩
  · rw [c] at h2; cases h2
  rcases inB_or (n := 3) z (by decide) with c | ⟨m, hm, e5, -, e6⟩
  · rw [c] at h4; cases h4
  have n0 : n ≠ 0 := by
    intro q
    rw [e3, q, decide_eq_true (show nI 0 = 0 from rfl)] at h3
    cases h3
  refine ⟨⟨g, n, hg, e1, e2, by omega, hn, e3, e4⟩, ?_⟩
  have : m = 0 ∨ m = 1 ∨ m = 2 := by omega
  rcases this with q | q | q
  · left; rw [e5, q]; rfl
  · right; left; rw [e5, q]; rfl
  · right; right; rw [e5, q]; rfl
theorem c_days {x y z : Int32} {Q : Int32 → pm_H → Prop} (i : InvC h s) (ok : okSta s w) (hw : w + 99 ≤ 1000) (k : ∀ h', InvC h' (daS s x y z) → FrA h h' → Q (aDays s x y z) h') : ci G (d + 8) m_X11_days [.ref 0, .int x, .int y, .int z] h Q := by
  have n3 := ok.n3
  unfold aDays at k
  refine ci_wp rfl (Nat.le_of_ble_eq_true rfl) rfl (x_X11_days ?_)
  by_cases cb : dayB x y z = true
  · rw [show daS s x y z = stN s (sN s + 1) from if_pos cb, if_pos cb] at k
    obtain ⟨⟨g, n, hg, rfl, ex, n0, n1, rfl, ey⟩, hz⟩ := dayB_is cb
    rw [ex, ey] at k
    rw [if_neg (nI_pos (by omega)), if_neg (show ¬ (9999 : Int32) < nI g by rw [i_lt, nI_toInt (by omega)]; show ¬ (9999 : Int) < _; omega), if_neg (show ¬ nI n < 1 by rw [i_lt, nI_toInt (by omega)]; show ¬ _ < (1 : Int); omega), if_neg (show ¬ (99 : Int32) < nI n by rw [i_lt, nI_toInt (by omega)]; show ¬ (99 : Int) < _; omega), if_neg (show ¬ z < 0 by rcases hz with q | q | q <;> rw [q] <;> decide), if_pos (show z ≤ 2 by rcases hz with q | q | q <;> rw [q] <;> decide)]
    refine ⟨i.la.own.1, ?_⟩
    rintro _ rfl
    rw [i.shut, show (nI (sN s) + 1 : Int32) = nI (sN s + 1) from by rw [show (1 : Int32) = nI 1 from rfl, nI_add]]
    have i1 : InvC (si h 0 10 (nI (sN s + 1))) (stN s (sN s + 1)) := i.setN
    have f1 : FrA h (si h 0 10 (nI (sN s + 1))) := FrA.si (by decide)
    have g1 : (si h 0 10 (nI (sN s + 1))).1 = h.1 := rfl
    generalize si h 0 10 (nI (sN s + 1)) = h1 at *
    obtain ⟨o1, o0, o_1, o_2, o3, o4, o5, o6, o7, -⟩ := i1.la.own
    obtain ⟨t0, t1, t2, -⟩ := i1.la.tri
    rw [o7, o6, ← g1]
    refine ⟨t0, s_live (d := d) (H := pHn (sP s)) (N := pN (sP s)) (seed := g) (many := n) i1.la (by decide) (by decide) n3.1 n3.2.2 i1.hn.1 i1.hn.2.2 (tvP_pos _) (fun J => tv_of (h := sj h1 J) i1.la ok.pl i1.pl.2.2.2.2.2.1 i1.pl.2.2.2.2.2.2.1 i1.pl.2.2.2.2.2.2.2) (by omega) n0 hg (by omega) ok.a i1.cf (fun M' J' hJ' hC hX => ?_)⟩
    have la := liv_agr ok hw (g := g) (n := n) (by omega) (lt := kLt (gf h1 16)) (lt' := ltP (sP s)) (kd := gi h1 13) (kd' := kdP (sP s)) (skd := gi h1 11) (skd' := skP (sP s)) (i1.pl.agr ok.pl).1 (fun t ht => (i1.pl.2.2.2.2.1 t ht).1)
    have lo := liv_ok ok hw (g := g) (n := n) (by omega) (ltP (sP s)) (kdP (sP s)) (skP (sP s))
    rw [la] at hC ⊢
    have es : livF (ltP (sP s)) (tvP (sP s)) (kdP (sP s)) (skP (sP s)) (pHn (sP s)) (pN (sP s)) n g (sA s) = livS s g n := rfl
    rw [es] at hC lo ⊢
    have i2 : InvC (sm (sj h1 J') M') (stN s (sN s + 1)) := InvC.ty (InvC_sj i1 hJ') hX.ty
    have f2 : FrA h (sm (sj h1 J') M') := f1.trans (FrA.trans (FrA_sj hJ') (FrA.ty (h := sj h1 J') hX.ty))
    have k := k _ i2 f2
    have hF : Fa (sm (sj h1 J') M') 97 := fa_of i2.la (by decide)
    rw [show gp (sm (sj h1 J') M') 0 7 = 90 from o7, show gp (sm (sj h1 J') M') 90 1 = 97 from t2]
    by_cases z0 : z = 0
    · rw [if_pos z0] at k ⊢; exact ⟨_, rfl, k⟩
    · rw [if_neg z0] at k ⊢
      by_cases z1 : z = 1
      · rw [if_pos z1] at k ⊢
        refine ⟨o1, t0, hF.1, s_raisedInAll (d := d + 4) (w := w + n) hF i2.la.lw.1 hC.1 lo.wf ?_⟩
        rw [show rsd (kLt (gf (sm (sj h1 J') M') 16)) (livS s g n).2.1 = rsd (ltP (sP s)) (livS s g n).2.1 from funext fun t => okN_rsd lo (i2.pl.agr ok.pl).1]
        exact ⟨_, rfl, k⟩
      · rw [if_neg z1] at k ⊢
        exact ⟨o1, t0, hF.1, s_itemsOnFloor (d := d + 5) hF i2.la i2.hn.2.2 n3.2.2 (fun t ht => ⟨(hC.2 t ht).1, (hC.2 t ht).2.1⟩) ⟨_, rfl, k⟩⟩
  · have k := k h (by rw [show daS s x y z = s from if_neg cb]; exact i) FrA.rfl'
    rw [if_neg cb] at k
    by_cases x0 : x < 0
    · rw [if_pos x0]; exact ⟨_, rfl, k⟩
    rw [if_neg x0]
    by_cases x1 : 9999 < x
    · rw [if_pos x1]; exact ⟨_, rfl, k⟩
    rw [if_neg x1]
    by_cases y0 : y < 1
    · rw [if_pos y0]; exact ⟨_, rfl, k⟩
    rw [if_neg y0]
    by_cases y1 : 99 < y
    · rw [if_pos y1]; exact ⟨_, rfl, k⟩
    rw [if_neg y1]
    by_cases z0 : z < 0
    · rw [if_pos z0]; exact ⟨_, rfl, k⟩
    rw [if_neg z0]
    by_cases z1 : z ≤ 2
    · exfalso
      apply cb
      have b1 : inB 10000 x = true := inB_lt x0 (fun q => by
        rw [i_le, nI_toInt (by decide)] at q
        rw [i_lt] at x1
        have e : (9999 : Int32).toInt = 9999 := by decide
        omega) (by decide)
      rw [i_lt] at y0
      have e1 : (1 : Int32).toInt = 1 := by decide
      have b2 : inB 100 y = true := inB_lt (fun q => by rw [i_lt0] at q; omega) (fun q => by
        rw [i_le, nI_toInt (by decide)] at q
        rw [i_lt] at y1
        have e : (99 : Int32).toInt = 99 := by decide
        omega) (by decide)
      have b3 : inB 3 z = true := by rw [inB_le (n := 2) (by decide) z0]; exact decide_eq_true z1
      have b4 : ¬ y = 0 := fun q => by rw [q] at y0; exact y0 (by decide)
      unfold dayB
      rw [b1, b2, b3, decide_eq_false b4]; rfl
    · rw [if_neg z1]; exact ⟨_, rfl, k⟩
theorem hm_lt (ok : okSta s w) {t : Nat} (ht : t < pN (sP s)) : hmP (sP s) t < 3 := by
  have a : hmP (sP s) t < pHn (sP s) := (ok.pl.item ht).2.2.2.2
  have := ok.n3.1
  omega
theorem jud_ok (ok : okSta s w) : okN (pN (sP s)) (judS s).2 (pN (sP s) + (sW s).length) := okN_jud ok.n3.2.2 (tvP_pos _) (sW s) 0 (-1) (pN (sP s)) _ ok.wk.1 (by have := ok.n3; have := ok.wk.2.1; omega) (okN_tell ok.n3.2.2 (tvP_pos _) _ (Nat.le_refl _) (fun t ht => hm_lt ok ht))
theorem jud_agr (ok : okSta s w) {lt : Nat → Nat → Bool} {kd skd : Nat → Int32} (ha : Agr (pN (sP s)) lt (ltP (sP s))) (hk : ∀ t, t < pN (sP s) → kd t = kdP (sP s) t) (hs : ∀ x, x < pSs (sP s) → skd x = skP (sP s) x) : judL lt (tvP (sP s)) kd skd (sW s) 0 (-1) (tellF lt (tvP (sP s)) (hmP (sP s)) (pN (sP s))) = judS s := by
  have hm : ∀ t, t < pN (sP s) → hmP (sP s) t < 3 := fun t ht => hm_lt ok ht
  rw [(tellF_agr ha _ (Nat.le_refl _) hm).1]
  exact judL_agr ok.n3.2.2 (tvP_pos _) ha hk (sW s) 0 (-1) (pN (sP s)) _ ok.wk.1 (by have := ok.n3; have := ok.wk.2.1; omega) (okN_tell ok.n3.2.2 (tvP_pos _) _ (Nat.le_refl _) hm) (fun q hq e => hs _ (ok.wk.2.2 q hq e))
theorem c_judged {x : Int32} {Q : Int32 → pm_H → Prop} (i : InvC h s) (ok : okSta s w) (k : ∀ h', InvC h' s → FrA h h' → Q (aJudged s x) h') : ci G (d + 9) m_X11_judged [.ref 0, .int x] h Q := by
  have n3 := ok.n3
  unfold aJudged at k
  refine ci_wp rfl (Nat.le_of_ble_eq_true rfl) rfl (x_X11_judged ?_)
  by_cases x0 : x < 0
  · rw [inB_no (Or.inl x0) (by decide), if_neg (by decide)] at k
    rw [if_pos x0]; exact ⟨_, rfl, k _ i FrA.rfl'⟩
  rw [if_neg x0]
  by_cases x1 : x ≤ 2
  · rw [inB_le (n := 2) (by decide) x0, show decide (x ≤ nI 2) = true from decide_eq_true x1, if_pos rfl] at k
    rw [if_pos x1]
    obtain ⟨o1, o0, o_1, o_2, o3, o4, o5, o6, o7, -⟩ := i.la.own
    obtain ⟨t0, t1, t2, -⟩ := i.la.tri
    rw [o7, o3]
    refine ⟨o1, t0, s_judge (d := d) (N := pN (sP s)) (hm := hmP (sP s)) i.la n3.2.2 i.hn.2.2 (tvP_pos _) (i.tv ok.pl) (fun t ht => ⟨hm_lt ok ht, (i.pl.2.2.2.2.1 t ht).2.1⟩) i.wk ok.wk.2.1 ok.wk.1 (fun M' hC hX => ?_)⟩
    have ja := jud_agr ok (i.pl.agr ok.pl).1 (fun t ht => (i.pl.2.2.2.2.1 t ht).1) (skd := gi h 11) (fun t ht => i.pl.2.2.2.1 t ht)
    have lo := jud_ok ok
    rw [ja] at hC ⊢
    have i2 : InvC (sm h M') s := i.ty hX.ty
    have k := k _ i2 (FrA.ty hX.ty)
    have hF : Fa (sm h M') 97 := fa_of i2.la (by decide)
    rw [show gp (sm h M') 0 7 = 90 from o7, show gp (sm h M') 90 1 = 97 from t2]
    by_cases z0 : x = 0
    · rw [if_pos z0] at k ⊢; exact ⟨_, rfl, k⟩
    · rw [if_neg z0] at k ⊢
      by_cases z1 : x = 1
      · rw [if_pos z1] at k ⊢
        exact ⟨o1, t0, hF.1, s_itemsOnFloor (d := d + 6) hF i2.la i2.hn.2.2 n3.2.2 (fun t ht => ⟨(hC.2 t ht).1, (hC.2 t ht).2.1⟩) ⟨_, rfl, k⟩⟩
      · rw [if_neg z1] at k ⊢
        refine ⟨o1, t0, hF.1, s_raisedInAll (d := d + 5) (w := pN (sP s) + (sW s).length) hF i2.la.lw.1 hC.1 lo.wf ?_⟩
        rw [show rsd (kLt (gf (sm h M') 16)) (judS s).2.1 = rsd (ltP (sP s)) (judS s).2.1 from funext fun t => okN_rsd lo (i2.pl.agr ok.pl).1]
        exact ⟨_, rfl, k⟩
  · rw [inB_le (n := 2) (by decide) x0, show decide (x ≤ nI 2) = false from decide_eq_false x1, if_neg (by decide)] at k
    rw [if_neg x1]; exact ⟨_, rfl, k _ i FrA.rfl'⟩
end CTR
