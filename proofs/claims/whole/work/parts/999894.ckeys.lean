/-! CKEYS: no item's KEY is above the CKEY of its node; below stands no lesser CKEY -/
def OKT (ks : Nat → Nat) : Tr → Prop
  | .leaf => True
  | .inner _ k _ l r => (∀ t ∈ n_ls k, ks t ≤ ks (n_ld k)) ∧ (isL l = false → ks (n_ld k) ≤ ks (tr_ld l)) ∧ (isL r = false → ks (n_ld k) ≤ ks (tr_ld r)) ∧ OKT ks l ∧ OKT ks r
theorem OKT.nd {ks : Nat → Nat} : ∀ {T : Tr}, OKT ks T → ∀ k ∈ tr_nds T, ∀ t ∈ n_ls k, ks t ≤ ks (n_ld k)
  | .leaf, _, k, hk => by cases hk
  | .inner _ k0 _ l r, ⟨h1, _, _, h4, h5⟩, k, hk => by
    rcases List.mem_cons.mp hk with q | q
    · rw [q]; exact h1
    · rcases List.mem_append.mp q with q | q
      · exact h4.nd k q
      · exact h5.nd k q
/-- the lesser of two is drawn from -/
theorem swp_le {ks : Nat → Nat} {lt : Nat → Nat → Bool} {l r : Tr} (hlt : ∀ a b, lt a b = true ↔ ks a < ks b) (h : ¬ (isL l = true ∧ isL r = true)) : isL (if swp lt l r = true then r else l) = false ∧ (isL (if swp lt l r = true then l else r) = false → ks (tr_ld (if swp lt l r = true then r else l)) ≤ ks (tr_ld (if swp lt l r = true then l else r))) := by
  cases hb : swp lt l r with
  | true =>
    rw [if_pos rfl, if_pos rfl]
    unfold swp at hb
    cases e1 : isL l with
    | true =>
      refine ⟨?_, fun q => by cases q⟩
      cases e2 : isL r with
      | true => exact absurd ⟨e1, e2⟩ h
      | false => rfl
    | false =>
      rw [e1] at hb
      have hb : isL r = false ∧ lt (tr_ld r) (tr_ld l) = true := by simpa using hb
      exact ⟨hb.1, fun _ => Nat.le_of_lt ((hlt _ _).mp hb.2)⟩
  | false =>
    rw [if_neg (by decide), if_neg (by decide)]
    unfold swp at hb
    cases e1 : isL l with
    | true => rw [e1] at hb; cases hb
    | false =>
      refine ⟨rfl, fun q => ?_⟩
      rw [e1, q] at hb
      have hb : lt (tr_ld r) (tr_ld l) = false := by simpa using hb
      exact Nat.le_of_not_lt (fun z => by rw [(hlt _ _).mpr z] at hb; cases hb)
theorem OKT.get {ks : Nat → Nat} {b : Bool} {l r : Tr} (hl : OKT ks l) (hr : OKT ks r) : OKT ks (if b = true then r else l) ∧ OKT ks (if b = true then l else r) := by
  cases b
  · exact ⟨hl, hr⟩
  · exact ⟨hr, hl⟩
theorem ord_get {ks : Nat → Nat} {b : Bool} {l r : Tr} {x : Nat} (hl : isL l = false → x ≤ ks (tr_ld l)) (hr : isL r = false → x ≤ ks (tr_ld r)) : (isL (if b = true then r else l) = false → x ≤ ks (tr_ld (if b = true then r else l))) ∧ (isL (if b = true then l else r) = false → x ≤ ks (tr_ld (if b = true then l else r))) := by
  cases b
  · exact ⟨hl, hr⟩
  · exact ⟨hr, hl⟩
theorem siftF_okt {ks : Nat → Nat} {lt : Nat → Nat → Bool} (hlt : ∀ a b, lt a b = true ↔ ks a < ks b) : ∀ (n : Nat) (k : Nd) (l r : Tr) (k' : Nd) (l' r' : Tr) (m : Nat), OKT ks (tn k l r) → siftF lt n k l r = some (k', l', r', m) → OKT ks (tn k' l' r') ∧ ks (n_ld k) ≤ ks (n_ld k')
  | 0, _, _, _, _, _, _, _, _, h => by cases h
  | n + 1, k, l, r, k', l', r', m, ⟨h1, h2, h3, h4, h5⟩, h => by
    rw [siftF] at h
    split at h
    next c => cases h; exact ⟨⟨h1, h2, h3, h4, h5⟩, Nat.le_refl _⟩
    next c =>
      obtain ⟨s1, s2⟩ := swp_le (l := l) (r := r) hlt (fun q => c (Or.inr q))
      obtain ⟨g1, g2⟩ := OKT.get (b := swp lt l r) h4 h5
      obtain ⟨o1, o2⟩ := ord_get (b := swp lt l r) h2 h3
      generalize (if swp lt l r = true then r else l) = X at s1 s2 g1 o1 h
      generalize (if swp lt l r = true then l else r) = Y at s2 g2 o2 h
      cases X with
      | leaf => cases h
      | inner z c u lc rc =>
        obtain ⟨a1, a2, a3, a4, a5⟩ := g1
        have o1 : ks (n_ld k) ≤ ks (n_ld c) := o1 rfl
        have s2 : isL Y = false → ks (n_ld c) ≤ ks (tr_ld Y) := s2
        have ls : ∀ t ∈ n_ls k ++ n_ls c, ks t ≤ ks (n_ld c) := fun t ht => by
          rcases List.mem_append.mp ht with q | q
          · exact Nat.le_trans (h1 t q) o1
          · exact a1 t q
        simp only at h
        split at h
        next c2 =>
          cases e : siftF lt n (k.1, n_rk k, n_tg k, n_ld c, n_ls k ++ n_ls c) .leaf Y with
          | none => rw [e] at h; cases h
          | some p =>
            obtain ⟨k1, l1, r1, m1⟩ := p
            rw [e] at h
            cases h
            obtain ⟨b1, b2⟩ := siftF_okt hlt n (k.1, n_rk k, n_tg k, n_ld c, n_ls k ++ n_ls c) .leaf Y k' l' r' m1 ⟨ls, fun q => (by cases q), s2, trivial, g2⟩ e
            exact ⟨b1, Nat.le_trans o1 b2⟩
        next c2 =>
          cases e : siftF lt n (c.1, n_rk c, n_tg c, n_ld c, []) lc rc with
          | none => rw [e] at h; cases h
          | some p =>
            obtain ⟨c1, lc1, rc1, m1⟩ := p
            rw [e] at h
            obtain ⟨d1, d2⟩ := siftF_okt hlt n (c.1, n_rk c, n_tg c, n_ld c, []) lc rc c1 lc1 rc1 m1 ⟨fun t ht => (by cases ht), a2, a3, a4, a5⟩ e
            simp only at h
            cases e3 : siftF lt n (k.1, n_rk k, n_tg k, n_ld c, n_ls k ++ n_ls c) (tn c1 lc1 rc1) Y with
            | none => rw [e3] at h; cases h
            | some p =>
              obtain ⟨k1, l1, r1, m2⟩ := p
              rw [e3] at h
              cases h
              obtain ⟨b1, b2⟩ := siftF_okt hlt n (k.1, n_rk k, n_tg k, n_ld c, n_ls k ++ n_ls c) (tn c1 lc1 rc1) Y k' l' r' m2 ⟨ls, fun _ => d2, s2, d1, g2⟩ e3
              exact ⟨b1, Nat.le_trans o1 b2⟩
theorem siftT_okt {ks : Nat → Nat} {lt : Nat → Nat → Bool} {k : Nd} {l r : Tr} (hlt : ∀ a b, lt a b = true ↔ ks a < ks b) (h : OKT ks (tn k l r)) : OKT ks (siftT lt k l r) := by
  unfold siftT
  cases e : siftF lt 400 k l r with
  | none => exact h
  | some p =>
    obtain ⟨k1, l1, r1, m1⟩ := p
    exact (siftF_okt hlt _ _ _ _ _ _ _ _ h e).1
/-- a node whose LIST is empty takes its CKEY from below -/
theorem siftF_ld {lt : Nat → Nat → Bool} {n : Nat} {j rk x y : Nat} {tg : Int32} {l r : Tr} (h0 : 0 < tg) (hl : ¬ (isL l = true ∧ isL r = true)) : siftF lt n (j, rk, tg, x, []) l r = siftF lt n (j, rk, tg, y, []) l r := by
  cases n with
  | zero => rfl
  | succ n =>
    have e : ∀ v : Nat, ¬ (¬ nI (n_ls ((j, rk, tg, v, []) : Nd)).length < n_tg ((j, rk, tg, v, []) : Nd) ∨ (isL l = true ∧ isL r = true)) := fun v q => by
      rcases q with q | q
      · exact q h0
      · exact hl q
    rw [siftF, siftF, if_neg (e x), if_neg (e y)]
theorem siftF_new {ks : Nat → Nat} {lt : Nat → Nat → Bool} {n j rk : Nat} {tg : Int32} {l r : Tr} {k' : Nd} {l' r' : Tr} {m : Nat} (hlt : ∀ a b, lt a b = true ↔ ks a < ks b) (h0 : 0 < tg) (hl : isL l = false) (hr : isL r = false) (o1 : OKT ks l) (o2 : OKT ks r) (h : siftF lt n (j, rk, tg, 0, []) l r = some (k', l', r', m)) : OKT ks (tn k' l' r') := by
  have nl : ¬ (isL l = true ∧ isL r = true) := fun q => by rw [hl] at q; cases q.1
  obtain ⟨s1, s2⟩ := swp_le (l := l) (r := r) hlt nl
  rw [siftF_ld (y := tr_ld (if swp lt l r = true then r else l)) h0 nl] at h
  have key : ks (tr_ld (if swp lt l r = true then r else l)) ≤ ks (tr_ld l) ∧ ks (tr_ld (if swp lt l r = true then r else l)) ≤ ks (tr_ld r) := by
    by_cases c : swp lt l r = true
    · rw [if_pos c, if_pos c] at s2; rw [if_pos c]; exact ⟨s2 hl, Nat.le_refl _⟩
    · rw [if_neg c, if_neg c] at s2; rw [if_neg c]; exact ⟨Nat.le_refl _, s2 hr⟩
  generalize tr_ld (if swp lt l r = true then r else l) = x at *
  exact (siftF_okt hlt n (j, rk, tg, x, []) l r k' l' r' m ⟨fun t ht => (by cases ht), fun _ => key.1, fun _ => key.2, o1, o2⟩ h).1
def OKTs (ks : Nat → Nat) (hs : Hs) : Prop := ∀ q, q < 72 → OKT ks (hs q)
theorem OKTs.up {ks : Nat → Nat} {q : Nat} {hs : Hs} {T : Tr} (h : OKTs ks hs) (hT : OKT ks T) : OKTs ks (up1 hs q T) := fun x hx => by
  by_cases e : x = q
  · rw [e, up1_at]; exact hT
  · rw [up1_ne _ _ e]; exact h x hx
theorem joinF_okt {ks : Nat → Nat} {lt : Nat → Nat → Bool} {tv : Nat → Int32 → Int32} {a w : Nat} (hlt : ∀ a b, lt a b = true ↔ ks a < ks b) (ha : a < 3) (hw : w ≤ 1000) (hpos : ∀ r t, 0 < tv r t) : ∀ (n r : Nat) (hs : Hs) (T : Tr), r + n = 24 → wf hs T w → isL T = false → tr_rk T = r → OKTs ks hs → OKT ks T → OKTs ks (joinF lt tv n hs T a r)
  | 0, _, _, _, _, _, _, _, h, _ => h
  | n + 1, r, hs, T, hn, hwf, hT, hr, h, hO => by
    by_cases hX : isL (hs (24 * a + r)) = true
    · rw [joinF, if_pos hX]; exact h.up hO
    · have hX' : isL (hs (24 * a + r)) = false := by simpa using hX
      have hr9 : r ≤ 9 := hr ▸ hwf.rk hT hw
      rw [joinF, if_neg hX]
      have hp := hpos (r + 1) (mx (tr_tg (hs (24 * a + r))) (tr_tg T))
      obtain ⟨y1, y2, y3, y4, y5, y6, y7, y8, k', l', r', m, y9, y10, y11, y12, y13, y14, y15, y16⟩ := wf_join (lt := lt) (tg := tv (r + 1) (mx (tr_tg (hs (24 * a + r))) (tr_tg T))) hwf hT hr hw ha hX' hp
      rw [y10]
      refine joinF_okt hlt ha hw hpos n (r + 1) (up1 hs (24 * a + r) .leaf) (tn k' l' r') (by omega) y16 rfl y13 (h.up trivial) ?_
      exact siftF_new hlt hp hX' hT (h _ (by omega)) hO y9
theorem putA_okt {ks : Nat → Nat} {lt : Nat → Nat → Bool} {tvf : Int32 → Nat → Int32 → Int32} {A : AF} {w t a : Nat} (hlt : ∀ a b, lt a b = true ↔ ks a < ks b) (h : okA A w) (ht : t < 20) (ha : a < 3) (hn : A.2.1 t = -1) (hw : w + 1 ≤ 1000) (hpos : ∀ al r g, 0 < tvf al r g) (hO : OKTs ks A.1) : OKTs ks (putA lt tvf A t a).1 := by
  obtain ⟨w1, -, -, -⟩ := wf_leaf h.1 ht (h.free ht hn)
  refine joinF_okt hlt ha hw (hpos _) 24 0 A.1 _ rfl w1 rfl rfl hO ⟨fun u hu => ?_, fun q => (by cases q), fun q => (by cases q), trivial, trivial⟩
  rw [List.mem_singleton.mp hu]; exact Nat.le_refl _
theorem takT_okt {ks : Nat → Nat} {lt : Nat → Nat → Bool} {T : Tr} (hlt : ∀ a b, lt a b = true ↔ ks a < ks b) (h : OKT ks T) : OKT ks (takT lt T) := by
  cases T with
  | leaf => exact h
  | inner z k u l r =>
    obtain ⟨h1, h2, h3, h4, h5⟩ := h
    have h' : OKT ks (tn (k.1, n_rk k, n_tg k, n_ld k, (n_ls k).tail) l r) := ⟨fun t ht => h1 t (List.mem_of_mem_tail ht), h2, h3, h4, h5⟩
    rw [takT]
    split
    · exact h'
    · split
      · split
        · trivial
        · exact h'
      · exact siftT_okt hlt h'
theorem takeA_okt {ks : Nat → Nat} {lt : Nat → Nat → Bool} {A A' : AF} {a t : Nat} (hlt : ∀ a b, lt a b = true ↔ ks a < ks b) (ha : a < 3) (hO : OKTs ks A.1) (e : takeA lt A a = some (t, A')) : OKTs ks A'.1 := by
  unfold takeA at e
  split at e
  next => cases e
  next r hr =>
    obtain ⟨hr1, hr2⟩ := lrF_ok hr
    cases e
    exact hO.up (takT_okt hlt (hO _ (by omega)))
theorem shelveA_okt {ks : Nat → Nat} {lt : Nat → Nat → Bool} {kd skd : Nat → Int32} {A : AF} {a s : Nat} (hlt : ∀ a b, lt a b = true ↔ ks a < ks b) (ha : a < 3) (hO : OKTs ks A.1) : OKTs ks (shelveA lt kd skd A a s).2.1 := by
  unfold shelveA
  cases e : takeA lt A a with
  | none => exact hO
  | some p =>
    obtain ⟨t, A'⟩ := p
    have := takeA_okt hlt ha hO e
    simp only
    split
    · exact this
    · split <;> exact this
theorem moveA_okt {ks : Nat → Nat} {lt : Nat → Nat → Bool} {tvf : Int32 → Nat → Int32 → Int32} {A : AF} {w a b r : Nat} (hlt : ∀ a b, lt a b = true ↔ ks a < ks b) (h : okA A w) (ha : a < 3) (hb : b < 3) (hr : r < 24) (hw : w ≤ 1000) (hpos : ∀ al r g, 0 < tvf al r g) (hO : OKTs ks A.1) : OKTs ks (moveA lt tvf A a b r).1 := by
  unfold moveA
  split
  next c => exact hO
  next c =>
    have c' : isL (A.1 (24 * a + r)) = false := by simpa using c
    have hq : 24 * a + r < 72 := by omega
    obtain ⟨w1, w2⟩ := wf_out h.1 hq c'
    have w2 : tr_rk (A.1 (24 * a + r)) = r := by omega
    exact joinF_okt hlt hb hw (hpos _) (24 - r) r (up1 A.1 (24 * a + r) .leaf) (A.1 (24 * a + r)) (by omega) w1 c' w2 (hO.up trivial) (hO _ hq)
theorem meldF_okt {ks : Nat → Nat} {lt : Nat → Nat → Bool} {tvf : Int32 → Nat → Int32 → Int32} {A : AF} {w a b : Nat} (hlt : ∀ a b, lt a b = true ↔ ks a < ks b) (h : okA A w) (ha : a < 3) (hb : b < 3) (hab : a ≠ b) (hw : w ≤ 1000) (hpos : ∀ al r g, 0 < tvf al r g) (hO : OKTs ks A.1) : ∀ n, n ≤ 24 → OKTs ks (meldF lt tvf a b n A).1
  | 0, _ => hO
  | n + 1, hn => moveA_okt hlt (okA_meldF h ha hb hab hw hpos n (by omega)) ha hb (by omega) hw hpos (meldF_okt hlt h ha hb hab hw hpos hO n (by omega))
theorem tellF_okt {ks : Nat → Nat} {lt : Nat → Nat → Bool} {tvf : Int32 → Nat → Int32 → Int32} {N : Nat} {hm : Nat → Nat} (hlt : ∀ a b, lt a b = true ↔ ks a < ks b) (hN : N ≤ 20) (hpos : ∀ al r g, 0 < tvf al r g) : ∀ n, n ≤ N → (∀ t, t < n → hm t < 3) → OKTs ks (tellF lt tvf hm n).1
  | 0, _, _ => fun _ _ => trivial
  | n + 1, hn, hh => by
    have o := okN_tell (lt := lt) (tvf := tvf) hN hpos n (by omega) (fun t ht => hh t (by omega))
    exact putA_okt hlt o.1 (by omega) (hh n (by omega)) ((tellF_ok (lt := lt) hpos n (by omega) (fun t ht => hh t (by omega))).2 n (Nat.le_refl _)) (by omega) hpos (tellF_okt hlt hN hpos n (by omega) (fun t ht => hh t (by omega)))
