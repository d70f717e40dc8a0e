/-! TWO ORDERS that agree on the ITEMS told do the same -/
def LB (N : Nat) (T : Tr) : Prop := ∀ k ∈ tr_nds T, n_ld k < N
def Agr (N : Nat) (lt lt' : Nat → Nat → Bool) : Prop := ∀ a b, a < N → b < N → lt a b = lt' a b
theorem LB.leaf {N : Nat} : LB N .leaf := fun _ h => by cases h
theorem LB.mk {N z : Nat} {k : Nd} {u : Unit} {l r : Tr} (h1 : n_ld k < N) (h2 : LB N l) (h3 : LB N r) : LB N (.inner z k u l r) := fun x hx => by
  rcases List.mem_cons.mp hx with q | q
  · rw [q]; exact h1
  · rcases List.mem_append.mp q with q | q
    · exact h2 x q
    · exact h3 x q
theorem LB.out {N z : Nat} {k : Nd} {u : Unit} {l r : Tr} (h : LB N (.inner z k u l r)) : n_ld k < N ∧ LB N l ∧ LB N r :=
  ⟨h k List.mem_cons_self, fun x hx => h x (List.mem_cons_of_mem _ (List.mem_append_left _ hx)), fun x hx => h x (List.mem_cons_of_mem _ (List.mem_append_right _ hx))⟩
theorem LB.ld {N : Nat} {T : Tr} (h : LB N T) (hl : isL T = false) : tr_ld T < N := by
  cases T with
  | leaf => cases hl
  | inner z k u l r => exact h.out.1
theorem swp_agr {N : Nat} {lt lt' : Nat → Nat → Bool} {l r : Tr} (ha : Agr N lt lt') (hl : LB N l) (hr : LB N r) : swp lt l r = swp lt' l r := by
  unfold swp
  cases e1 : isL l with
  | true => rfl
  | false =>
    cases e2 : isL r with
    | true => rfl
    | false => rw [ha _ _ (hr.ld e2) (hl.ld e1)]
theorem LB.get {N : Nat} {b : Bool} {l r : Tr} (hl : LB N l) (hr : LB N r) : LB N (if b = true then r else l) ∧ LB N (if b = true then l else r) := by
  cases b
  · exact ⟨hl, hr⟩
  · exact ⟨hr, hl⟩
theorem siftF_agr {N : Nat} {lt lt' : Nat → Nat → Bool} (ha : Agr N lt lt') : ∀ (n : Nat) (k : Nd) (l r : Tr), n_ld k < N → LB N l → LB N r → siftF lt n k l r = siftF lt' n k l r ∧ ∀ k' l' r' m, siftF lt n k l r = some (k', l', r', m) → n_ld k' < N ∧ LB N l' ∧ LB N r'
  | 0, _, _, _, _, _, _ => ⟨rfl, fun _ _ _ _ h => by cases h⟩
  | n + 1, k, l, r, hk, hl, hr => by
    have es := swp_agr ha hl hr
    obtain ⟨g1, g2⟩ := LB.get (b := swp lt l r) hl hr
    rw [siftF, siftF, ← es]
    split
    next c =>
      refine ⟨rfl, fun k' l' r' m h => ?_⟩
      cases h
      exact ⟨hk, hl, hr⟩
    next c =>
      generalize (if swp lt l r = true then r else l) = X at g1 ⊢
      generalize (if swp lt l r = true then l else r) = Y at g2 ⊢
      cases X with
      | leaf => exact ⟨rfl, fun _ _ _ _ h => by cases h⟩
      | inner z c u lc rc =>
        obtain ⟨o1, o2, o3⟩ := g1.out
        simp only
        split
        next c2 =>
          obtain ⟨e1, e2⟩ := siftF_agr ha n (k.1, n_rk k, n_tg k, n_ld c, n_ls k ++ n_ls c) .leaf Y o1 LB.leaf g2
          rw [← e1]
          cases e : siftF lt n (k.1, n_rk k, n_tg k, n_ld c, n_ls k ++ n_ls c) .leaf Y with
          | none => exact ⟨rfl, fun _ _ _ _ h => by cases h⟩
          | some p =>
            obtain ⟨k1, l1, r1, m1⟩ := p
            refine ⟨rfl, fun k' l' r' m h => ?_⟩
            cases h
            exact e2 _ _ _ _ e
        next c2 =>
          obtain ⟨e1, e2⟩ := siftF_agr ha n (c.1, n_rk c, n_tg c, n_ld c, []) lc rc o1 o2 o3
          rw [← e1]
          cases e : siftF lt n (c.1, n_rk c, n_tg c, n_ld c, []) lc rc with
          | none => exact ⟨rfl, fun _ _ _ _ h => by cases h⟩
          | some p =>
            obtain ⟨c1, lc1, rc1, m1⟩ := p
            obtain ⟨d1, d2, d3⟩ := e2 _ _ _ _ e
            obtain ⟨f1, f2⟩ := siftF_agr ha n (k.1, n_rk k, n_tg k, n_ld c, n_ls k ++ n_ls c) (tn c1 lc1 rc1) Y o1 (LB.mk d1 d2 d3) g2
            simp only
            rw [← f1]
            cases e3 : siftF lt n (k.1, n_rk k, n_tg k, n_ld c, n_ls k ++ n_ls c) (tn c1 lc1 rc1) Y with
            | none => exact ⟨rfl, fun _ _ _ _ h => by cases h⟩
            | some p =>
              obtain ⟨k1, l1, r1, m2⟩ := p
              refine ⟨rfl, fun k' l' r' m h => ?_⟩
              cases h
              exact f2 _ _ _ _ e3
theorem siftT_agr {N : Nat} {lt lt' : Nat → Nat → Bool} {k : Nd} {l r : Tr} (ha : Agr N lt lt') (hk : n_ld k < N) (hl : LB N l) (hr : LB N r) : siftT lt k l r = siftT lt' k l r ∧ LB N (siftT lt k l r) := by
  obtain ⟨e1, e2⟩ := siftF_agr ha 400 k l r hk hl hr
  unfold siftT
  rw [← e1]
  cases e : siftF lt 400 k l r with
  | none => exact ⟨rfl, LB.mk hk hl hr⟩
  | some p =>
    obtain ⟨k1, l1, r1, m1⟩ := p
    obtain ⟨d1, d2, d3⟩ := e2 _ _ _ _ e
    exact ⟨rfl, LB.mk d1 d2 d3⟩
def LBs (N : Nat) (hs : Hs) : Prop := ∀ q, q < 72 → LB N (hs q)
theorem LBs.up {N q : Nat} {hs : Hs} {T : Tr} (h : LBs N hs) (hT : LB N T) : LBs N (up1 hs q T) := fun x hx => by
  by_cases e : x = q
  · rw [e, up1_at]; exact hT
  · rw [up1_ne _ _ e]; exact h x hx
theorem joinF_agr {N a : Nat} {lt lt' : Nat → Nat → Bool} {tv : Nat → Int32 → Int32} (ha : Agr N lt lt') (h3 : a < 3) (hN : 0 < N) : ∀ (n r : Nat) (hs : Hs) (T : Tr), r + n = 24 → LBs N hs → LB N T → joinF lt tv n hs T a r = joinF lt' tv n hs T a r ∧ LBs N (joinF lt tv n hs T a r)
  | 0, _, _, _, _, h, _ => ⟨rfl, h⟩
  | n + 1, r, hs, T, hr, h, hT => by
    rw [joinF, joinF]
    split
    next c => exact ⟨rfl, h.up hT⟩
    next c =>
      obtain ⟨e1, e2⟩ := siftT_agr (k := (lfree (aids hs ++ tr_ids T), r + 1, tv (r + 1) (mx (tr_tg (hs (24 * a + r))) (tr_tg T)), 0, [])) ha hN (h (24 * a + r) (by omega)) hT
      rw [← e1]
      exact joinF_agr ha h3 hN n (r + 1) _ _ (by omega) (h.up LB.leaf) e2
theorem putA_agr {N t a : Nat} {lt lt' : Nat → Nat → Bool} {tvf : Int32 → Nat → Int32 → Int32} {A : AF} (ha : Agr N lt lt') (ht : t < N) (h3 : a < 3) (h : LBs N A.1) : putA lt tvf A t a = putA lt' tvf A t a ∧ LBs N (putA lt tvf A t a).1 := by
  obtain ⟨e1, e2⟩ := joinF_agr (tv := tvf (hcount (up1 A.2.1 t (nI a)) a)) ha h3 (by omega) 24 0 A.1 (tn (lfree (aids A.1 ++ []), 0, 1, t, [t]) .leaf .leaf) rfl h (LB.mk ht LB.leaf LB.leaf)
  refine ⟨?_, e2⟩
  unfold putA
  rw [e1]
theorem moveA_agr {N a b r : Nat} {lt lt' : Nat → Nat → Bool} {tvf : Int32 → Nat → Int32 → Int32} {A : AF} (ha : Agr N lt lt') (h1 : a < 3) (h3 : b < 3) (hr : r < 24) (h : LBs N A.1) : moveA lt tvf A a b r = moveA lt' tvf A a b r ∧ LBs N (moveA lt tvf A a b r).1 := by
  unfold moveA
  split
  next c => exact ⟨rfl, h⟩
  next c =>
    have hX := h (24 * a + r) (by omega)
    have hN : 0 < N := by
      have := hX.ld (by simpa using c)
      omega
    obtain ⟨e1, e2⟩ := joinF_agr (tv := tvf (hcount (fun u => if u ∈ tr_its (A.1 (24 * a + r)) then nI b else A.2.1 u) b)) ha h3 hN (24 - r) r (up1 A.1 (24 * a + r) .leaf) (A.1 (24 * a + r)) (by omega) (h.up LB.leaf) hX
    exact ⟨by rw [e1], e2⟩
theorem meldF_agr {N a b : Nat} {lt lt' : Nat → Nat → Bool} {tvf : Int32 → Nat → Int32 → Int32} {A : AF} (ha : Agr N lt lt') (h1 : a < 3) (h3 : b < 3) (h : LBs N A.1) : ∀ n, n ≤ 24 → meldF lt tvf a b n A = meldF lt' tvf a b n A ∧ LBs N (meldF lt tvf a b n A).1
  | 0, _ => ⟨rfl, h⟩
  | n + 1, hn => by
    obtain ⟨e1, e2⟩ := meldF_agr ha h1 h3 h n (by omega)
    obtain ⟨f1, f2⟩ := moveA_agr (tvf := tvf) (r := n) ha h1 h3 (by omega) e2
    rw [meldF, meldF, ← e1]
    exact ⟨f1, f2⟩
theorem meldA_agr {N a b : Nat} {lt lt' : Nat → Nat → Bool} {tvf : Int32 → Nat → Int32 → Int32} {A : AF} (ha : Agr N lt lt') (h1 : a < 3) (h3 : b < 3) (h : LBs N A.1) : meldA lt tvf A a b = meldA lt' tvf A a b ∧ LBs N (meldA lt tvf A a b).1 := meldF_agr ha h1 h3 h 24 (Nat.le_refl _)
theorem lrF_agr {N a : Nat} {lt lt' : Nat → Nat → Bool} {hs : Hs} (ha : Agr N lt lt') (h1 : a < 3) (h : LBs N hs) : ∀ n, n ≤ 24 → lrF lt hs a n = lrF lt' hs a n
  | 0, _ => rfl
  | n + 1, hn => by
    rw [lrF, lrF, ← lrF_agr ha h1 h n (by omega)]
    split
    · rfl
    next c =>
      cases e : lrF lt hs a n with
      | none => rfl
      | some b =>
        obtain ⟨b1, b2⟩ := lrF_ok e
        simp only
        rw [ha _ _ ((h (24 * a + n) (by omega)).ld (by simpa using c)) ((h (24 * a + b) (by omega)).ld b2)]
theorem takT_agr {N : Nat} {lt lt' : Nat → Nat → Bool} {T : Tr} (ha : Agr N lt lt') (h : LB N T) : takT lt T = takT lt' T ∧ LB N (takT lt T) := by
  cases T with
  | leaf => exact ⟨rfl, LB.leaf⟩
  | inner z k u l r =>
    obtain ⟨o1, o2, o3⟩ := h.out
    rw [takT, takT]
    split
    · exact ⟨rfl, LB.mk o1 o2 o3⟩
    · split
      · split
        · exact ⟨rfl, LB.leaf⟩
        · exact ⟨rfl, LB.mk o1 o2 o3⟩
      · exact siftT_agr ha o1 o2 o3
theorem takeA_agr {N a : Nat} {lt lt' : Nat → Nat → Bool} {A : AF} (ha : Agr N lt lt') (h1 : a < 3) (h : LBs N A.1) : takeA lt A a = takeA lt' A a ∧ ∀ t A', takeA lt A a = some (t, A') → LBs N A'.1 := by
  unfold takeA
  rw [← lrF_agr ha h1 h 24 (Nat.le_refl _)]
  cases e : lrF lt A.1 a 24 with
  | none => exact ⟨rfl, fun _ _ h => by cases h⟩
  | some r =>
    obtain ⟨b1, b2⟩ := lrF_ok e
    obtain ⟨e1, e2⟩ := takT_agr ha (h (24 * a + r) (by omega))
    simp only
    rw [← e1]
    refine ⟨rfl, fun t A' q => ?_⟩
    cases q
    exact h.up e2
theorem shelveA_agr {N a s : Nat} {lt lt' : Nat → Nat → Bool} {kd skd : Nat → Int32} {A : AF} (ha : Agr N lt lt') (h1 : a < 3) (h : LBs N A.1) : shelveA lt kd skd A a s = shelveA lt' kd skd A a s ∧ LBs N (shelveA lt kd skd A a s).2.1 := by
  obtain ⟨e1, e2⟩ := takeA_agr ha h1 h
  unfold shelveA
  rw [← e1]
  cases e : takeA lt A a with
  | none => exact ⟨rfl, h⟩
  | some p =>
    obtain ⟨t, A'⟩ := p
    have := e2 t A' e
    refine ⟨rfl, ?_⟩
    simp only
    split
    · exact this
    · split <;> exact this
theorem LBs_A0 {N : Nat} : LBs N A0.1 := fun _ _ => LB.leaf
theorem tellF_agr {N : Nat} {lt lt' : Nat → Nat → Bool} {tvf : Int32 → Nat → Int32 → Int32} {hm : Nat → Nat} (ha : Agr N lt lt') : ∀ n, n ≤ N → (∀ t, t < n → hm t < 3) → tellF lt tvf hm n = tellF lt' tvf hm n ∧ LBs N (tellF lt tvf hm n).1
  | 0, _, _ => ⟨rfl, LBs_A0⟩
  | n + 1, hn, hh => by
    obtain ⟨e1, e2⟩ := tellF_agr (tvf := tvf) ha n (by omega) (fun t ht => hh t (by omega))
    obtain ⟨f1, f2⟩ := putA_agr (tvf := tvf) (t := n) ha (by omega) (hh n (by omega)) e2
    rw [tellF, tellF, ← e1]
    exact ⟨f1, f2⟩
theorem chsF_agr {N : Nat} {lt lt' : Nat → Nat → Bool} {tvf : Int32 → Nat → Int32 → Int32} {c : Nat → Bool} (ha : Agr N lt lt') (hc : ∀ t, N ≤ t → c t = false) : ∀ n, chsF lt tvf c n = chsF lt' tvf c n ∧ LBs N (chsF lt tvf c n).1
  | 0 => ⟨rfl, LBs_A0⟩
  | n + 1 => by
    obtain ⟨e1, e2⟩ := chsF_agr (tvf := tvf) ha hc n
    rw [chsF, chsF, ← e1]
    split
    next z =>
      exact putA_agr (tvf := tvf) (t := n) ha (Classical.byContradiction fun q => by rw [hc n (by omega)] at z; cases z) (by decide) e2
    next z => exact ⟨rfl, e2⟩
theorem comF_agr {N a : Nat} {lt lt' : Nat → Nat → Bool} (ha : Agr N lt lt') (h1 : a < 3) : ∀ (n : Nat) (A : AF), LBs N A.1 → comF lt a n A = comF lt' a n A
  | 0, _, _ => rfl
  | n + 1, A, h => by
    obtain ⟨e1, e2⟩ := takeA_agr ha h1 h
    rw [comF, comF, ← e1]
    cases e : takeA lt A a with
    | none => rfl
    | some p =>
      obtain ⟨t, A'⟩ := p
      simp only
      rw [comF_agr ha h1 n A' (e2 t A' e)]
theorem rsd_agr {N : Nat} {lt lt' : Nat → Nat → Bool} {hs : Hs} {t : Nat} (ha : Agr N lt lt') (h : LBs N hs) (ht : t < N) : rsd lt hs t = rsd lt' hs t := by
  unfold rsd
  have : ∀ k ∈ ands hs, (decide (t ∈ n_ls k) && lt t (n_ld k)) = (decide (t ∈ n_ls k) && lt' t (n_ld k)) := by
    intro k hk
    obtain ⟨q, hq, h3⟩ := ands_mem.mp hk
    rw [ha t (n_ld k) ht (h q hq k h3)]
  rw [Bool.eq_iff_iff, List.any_eq_true, List.any_eq_true]
  exact ⟨fun ⟨k, h1, h2⟩ => ⟨k, h1, by rw [← this k h1]; exact h2⟩, fun ⟨k, h1, h2⟩ => ⟨k, h1, by rw [this k h1]; exact h2⟩⟩
theorem grL_agr {N : Nat} {ah ah' : Nat → Nat → Bool} (ha : Agr N ah ah') : ∀ (m : Nat) (g : Option Nat) (l : List Nat), (∀ b, g = some b → b < N) → (∀ t ∈ l, t < N) → grL ah m g l = grL ah' m g l
  | 0, _, _, _, _ => rfl
  | m + 1, _, [], _, _ => rfl
  | m + 1, g, t :: r, hg, hl => by
    have ht := hl t List.mem_cons_self
    have hr : ∀ u ∈ r, u < N := fun u hu => hl u (List.mem_cons_of_mem _ hu)
    cases g with
    | none => exact grL_agr ha m (some t) r (fun b hb => by cases hb; exact ht) hr
    | some b =>
      have hb := hg b rfl
      show grL ah m (some (if ah b t = true then t else b)) r = grL ah' m (some (if ah' b t = true then t else b)) r
      rw [← ha b t hb ht]
      refine grL_agr ha m _ r (fun x hx => ?_) hr
      split at hx
      · cases hx; exact ht
      · cases hx; exact hb
theorem cnt_agr {N : Nat} {hp : Nat → Int32} {x : Int32} {q q' : Nat → Bool} (hq : ∀ t, t < N → q t = q' t) (hn : ∀ t, N ≤ t → t < 20 → ¬ hp t = x) : cnt (fun t => decide (hp t = x) && q t) 20 = cnt (fun t => decide (hp t = x) && q' t) 20 :=
  cnt_congr fun t ht => by
    by_cases c : t < N
    · rw [hq t c]
    · rw [decide_eq_false (hn t (by omega) ht)]; rfl
theorem splS_agr {N : Nat} {ah ah' lt lt' : Nat → Nat → Bool} {tvf : Int32 → Nat → Int32 → Int32} {c : Nat → Bool} (ha : Agr N ah ah') (hl : Agr N lt lt') (hpos : ∀ al r g, 0 < tvf al r g) (hc : ∀ t, N ≤ t → c t = false) : splS ah lt tvf c = splS ah' lt' tvf c := by
  obtain ⟨e1, e2⟩ := chsF_agr (tvf := tvf) hl hc 20
  obtain ⟨o1, o2, o3⟩ := chsF_ok (lt := lt') (tvf := tvf) (c := c) hpos 20 (Nat.le_refl _)
  obtain ⟨g1, g2, g3⟩ := comF_ok (lt := lt') (a := 0) (by decide) (show 20 ≤ 1000 by decide) 20 _ o1 (cnt20 _)
  unfold splS
  rw [e1] at e2 ⊢
  rw [show comL lt 0 (chsF lt' tvf c 20) = comL lt' 0 (chsF lt' tvf c 20) from comF_agr hl (by decide) 20 _ e2]
  refine grL_agr ha _ _ _ (fun b hb => by cases hb) (fun t ht => ?_)
  refine Classical.byContradiction fun q => ?_
  have := ((g2 t).mp ht).2
  rw [o3, hc t (by omega), Bool.and_false] at this
  cases this
theorem stF_agr {N g : Nat} {ah ah' lt lt' : Nat → Nat → Bool} {tvf : Int32 → Nat → Int32 → Int32} (ha : Agr N ah ah') (hl : Agr N lt lt') (hpos : ∀ al r g, 0 < tvf al r g) (hg : g < N) : ∀ (n s : Nat) (c : Nat → Bool), (∀ t, N ≤ t → c t = false) → stF ah lt tvf g n s c = stF ah' lt' tvf g n s c
  | 0, _, _, _ => rfl
  | n + 1, s, c, hc => by
    rw [stF, stF, ← splS_agr ha hl hpos hc]
    cases e : splS ah lt tvf c with
    | none => rfl
    | some f =>
      simp only
      split
      · rfl
      next z =>
        have fN : f < N := by
          refine Classical.byContradiction fun q => ?_
          have hm : ∀ x, x ∈ comL lt 0 (chsF lt tvf c 20) → x < N := by
            intro x hx
            obtain ⟨o1, o2, o3⟩ := chsF_ok (lt := lt) (tvf := tvf) (c := c) hpos 20 (Nat.le_refl _)
            obtain ⟨g1, g2, g3⟩ := comF_ok (lt := lt) (a := 0) (by decide) (show 20 ≤ 1000 by decide) 20 _ o1 (cnt20 _)
            refine Classical.byContradiction fun q => ?_
            have := ((g2 x).mp hx).2
            rw [o3, hc x (by omega), Bool.and_false] at this
            cases this
          unfold splS at e
          rcases grL_mem e with y | y
          · cases y
          · exact q (hm f y)
        have ek : keepC ah c f g = keepC ah' c f g := by
          funext t
          unfold keepC
          by_cases l : t < N
          · rw [ha t f l fN, ha g f hg fN]
          · rw [hc t (by omega), Bool.false_and, Bool.false_and]
        rw [ek]
        exact stF_agr ha hl hpos hg n (s + 1) _ (fun t ht => by unfold keepC; rw [hc t ht, Bool.false_and])
