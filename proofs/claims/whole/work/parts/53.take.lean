/-! TAKE -/
/-- the RANK of the least ROOT, of those below n -/
def lrF (lt : Nat → Nat → Bool) (hs : Hs) (a : Nat) : Nat → Option Nat
  | 0 => none
  | n + 1 => if isL (hs (24 * a + n)) = true then lrF lt hs a n else match lrF lt hs a n with
    | none => some n
    | some b => if lt (tr_ld (hs (24 * a + n))) (tr_ld (hs (24 * a + b))) = true then some n else some b
def trO (hs : Hs) (a : Nat) : Option Nat → Tr
  | none => .leaf
  | some r => hs (24 * a + r)
theorem lrF_ok {lt : Nat → Nat → Bool} {hs : Hs} {a : Nat} : ∀ {n r : Nat}, lrF lt hs a n = some r → r < n ∧ isL (hs (24 * a + r)) = false
  | 0, r, e => by cases e
  | n + 1, r, e => by
    unfold lrF at e
    split at e
    next c =>
      obtain ⟨h1, h2⟩ := lrF_ok e
      exact ⟨by omega, h2⟩
    next c =>
      have c' : isL (hs (24 * a + n)) = false := by simpa using c
      split at e
      next q => cases e; exact ⟨by omega, c'⟩
      next b q =>
        split at e
        · cases e; exact ⟨by omega, c'⟩
        · cases e
          obtain ⟨h1, h2⟩ := lrF_ok q
          exact ⟨by omega, h2⟩
def takI : Tr → Nat
  | .leaf => 0
  | .inner _ k _ _ _ => (n_ls k).headD 0
def takT (lt : Nat → Nat → Bool) : Tr → Tr
  | .leaf => .leaf
  | .inner _ k _ l r =>
    if n_tg k / 2 < nI (n_ls k).tail.length then tn (k.1, n_rk k, n_tg k, n_ld k, (n_ls k).tail) l r
    else if isL l = true ∧ isL r = true then (if (n_ls k).tail = [] then .leaf else tn (k.1, n_rk k, n_tg k, n_ld k, (n_ls k).tail) l r)
    else siftT lt (k.1, n_rk k, n_tg k, n_ld k, (n_ls k).tail) l r
def takeA (lt : Nat → Nat → Bool) (A : AF) (a : Nat) : Option (Nat × AF) := match lrF lt A.1 a 24 with
  | none => none
  | some r => some (takI (A.1 (24 * a + r)), up1 A.1 (24 * a + r) (takT lt (A.1 (24 * a + r))), up1 A.2.1 (takI (A.1 (24 * a + r))) (-1), A.2.2)
theorem half_pos {g : Int32} (h : 0 < g) : ¬ g / 2 < 0 := by
  rw [i_lt0, Int32.toInt_div]
  rw [i_lt] at h
  have h0 : (0 : Int32).toInt = 0 := rfl
  have h2 : (2 : Int32).toInt = 2 := rfl
  have h3 := Int32.toInt_lt g
  rw [h0] at h
  rw [h2, Int.tdiv_eq_ediv_of_nonneg (by omega), Int.bmod_eq_of_le (by omega) (by omega)]
  omega
theorem takT_ok {lt : Nat → Nat → Bool} {T : Tr} (hw : TW T) (hr : TR T) (hl : isL T = false) (hrk : tr_rk T ≤ 16) (hid : (tr_ids T).Nodup) (hit : (tr_its T).Nodup) (hlen : (tr_its T).length ≤ 20) :
    TW (takT lt T) ∧ TR (takT lt T) ∧ (isL (takT lt T) = false → tr_rk (takT lt T) = tr_rk T) ∧ (tr_ids (takT lt T)).Nodup ∧ (∀ j ∈ tr_ids (takT lt T), j ∈ tr_ids T) ∧ (tr_its (takT lt T)).Nodup ∧ (∀ u, u ∈ tr_its (takT lt T) ↔ u ∈ tr_its T ∧ u ≠ takI T) ∧ takI T ∈ tr_its T := by
  cases T with
  | leaf => cases hl
  | inner z k u l r =>
    obtain ⟨⟨h1, h2, h3⟩, wl, wr'⟩ := hw
    obtain ⟨id, rk, tg, ld, ls⟩ := k
    cases ls with
    | nil => exact absurd rfl h1
    | cons t rest =>
      have hit' : (t :: (rest ++ (tr_its l ++ tr_its r))).Nodup := hit
      obtain ⟨n1, n2⟩ := List.nodup_cons.mp hit'
      have mem : ∀ u, u ∈ tr_its (tn (id, rk, tg, ld, rest) l r) ↔ u ∈ tr_its (.inner z (id, rk, tg, ld, t :: rest) () l r) ∧ u ≠ t := fun u => by
        show u ∈ rest ++ (tr_its l ++ tr_its r) ↔ u ∈ t :: (rest ++ (tr_its l ++ tr_its r)) ∧ u ≠ t
        rw [List.mem_cons]
        constructor
        · intro q
          exact ⟨Or.inr q, fun y => n1 (y ▸ q)⟩
        · rintro ⟨q | q, q2⟩
          · exact absurd q q2
          · exact q
      have memt : t ∈ tr_its (.inner z (id, rk, tg, ld, t :: rest) () l r) := List.mem_cons_self
      have eT : takT lt (.inner z (id, rk, tg, ld, t :: rest) u l r) = (if tg / 2 < nI rest.length then tn (id, rk, tg, ld, rest) l r else if isL l = true ∧ isL r = true then (if rest = [] then .leaf else tn (id, rk, tg, ld, rest) l r) else siftT lt (id, rk, tg, ld, rest) l r) := rfl
      rw [eT, show takI (.inner z (id, rk, tg, ld, t :: rest) u l r) = t from rfl]
      by_cases c1 : tg / 2 < nI rest.length
      · rw [if_pos c1]
        refine ⟨⟨⟨fun q => ?_, h2, h3⟩, wl, wr'⟩, hr, fun _ => rfl, hid, fun _ q => q, n2, mem, memt⟩
        have q : rest = [] := q
        rw [q] at c1
        exact half_pos h3 c1
      · rw [if_neg c1]
        by_cases c2 : isL l = true ∧ isL r = true
        · rw [if_pos c2]
          by_cases c3 : rest = []
          · rw [if_pos c3]
            refine ⟨trivial, trivial, fun q => (by cases q), List.nodup_nil, fun _ q => (by cases q), List.nodup_nil, fun u => ?_, memt⟩
            rw [← mem u]
            show u ∈ [] ↔ u ∈ rest ++ (tr_its l ++ tr_its r)
            rw [c3, (isL_ids c2.1).2, (isL_ids c2.2).2]
            simp
          · rw [if_neg c3]
            exact ⟨⟨⟨c3, h2, h3⟩, wl, wr'⟩, hr, fun _ => rfl, hid, fun _ q => q, n2, mem, memt⟩
        · rw [if_neg c2]
          have hlen2 : (tr_its (tn (id, rk, tg, ld, rest) l r)).length ≤ 20 := by
            have : (t :: (rest ++ (tr_its l ++ tr_its r))).length ≤ 20 := hlen
            rw [List.length_cons] at this
            show (rest ++ (tr_its l ++ tr_its r)).length ≤ 20
            omega
          obtain ⟨k', l', r', m, e1, e2, e3⟩ := siftT_ok (lt := lt) (k := (id, rk, tg, ld, rest)) wl wr' hr hrk h3 hid hlen2
          obtain ⟨g1, g2, g3, g4, g5, g6, g7, g8⟩ := siftF_spec 400 _ _ _ _ _ _ _ e1 wl wr' hid h3 hr (Or.inr h2)
          obtain ⟨g8, g9⟩ := g8 (Or.inr c2)
          rw [e2]
          exact ⟨⟨⟨g8, g9, by rw [g1.2.2]; exact h3⟩, g5, g6⟩, g7, fun _ => g1.2.1, g3, g2, g4.nodup_iff.mpr n2, fun u => g4.mem_iff.trans (mem u), memt⟩
theorem up1_up1 {α : Type} (F : Nat → α) (q : Nat) (v w : α) : up1 (up1 F q v) q w = up1 F q w := by
  funext j; unfold up1; split <;> rfl
/-- a TREE in another one's place -/
theorem wf_repl {hs : Hs} {T' : Tr} {w q : Nat} (h : wf hs .leaf w) (hq : q < 72) (hl : isL (hs q) = false) (h1 : TW T') (h2 : TR T') (h3 : isL T' = false → tr_rk T' = tr_rk (hs q)) (h4 : (tr_ids T').Nodup) (h5 : ∀ j ∈ tr_ids T', j ∈ tr_ids (hs q)) (h6 : (tr_its T').Nodup) (h7 : ∀ u ∈ tr_its T', u ∈ tr_its (hs q)) : wf (up1 hs q T') .leaf w := by
  obtain ⟨a1, a2, a3, a4, a5, -, -, a8⟩ := h
  have e0 : tr_ids .leaf = [] := rfl
  have e1 : tr_its .leaf = [] := rfl
  rw [e0, List.append_nil] at a1 a4
  rw [e1, List.append_nil] at a2 a3
  have pi := aids_up (hs := hs) (q := q) .leaf hq
  have pt := aits_up (hs := hs) (q := q) .leaf hq
  have pi2 := aids_up (hs := up1 hs q .leaf) (q := q) T' hq
  have pt2 := aits_up (hs := up1 hs q .leaf) (q := q) T' hq
  rw [up1_up1, up1_at, e0, List.append_nil] at pi2
  rw [up1_up1, up1_at, e1, List.append_nil] at pt2
  rw [e0, List.nil_append] at pi
  rw [e1, List.nil_append] at pt
  obtain ⟨b1, b2, b3⟩ := List.nodup_append.mp (pi.nodup_iff.mpr a1)
  obtain ⟨c1, c2, c3⟩ := List.nodup_append.mp (pt.nodup_iff.mpr a2)
  have ps := wsum_up (hs := hs) (q := q) T' hq
  refine ⟨?_, ?_, fun u hu => ?_, fun j hj => ?_, fun x hx => ?_, trivial, trivial, ?_⟩
  · rw [e0, List.append_nil]
    exact pi2.nodup_iff.mpr (List.nodup_append.mpr ⟨h4, b1, fun x hx y hy z => b3 y hy x (h5 x hx) z.symm⟩)
  · rw [e1, List.append_nil]
    exact pt2.nodup_iff.mpr (List.nodup_append.mpr ⟨h6, c1, fun x hx y hy z => c3 y hy x (h7 x hx) z.symm⟩)
  · rw [e1, List.append_nil] at hu
    rcases List.mem_append.mp (pt2.mem_iff.mp hu) with z | z
    · exact a3 u (aits_mem.mpr ⟨q, hq, h7 u z⟩)
    · exact a3 u (pt.mem_iff.mp (List.mem_append_left _ z))
  · rw [e0, List.append_nil] at hj
    rcases List.mem_append.mp (pi2.mem_iff.mp hj) with z | z
    · exact a4 j (aids_mem.mpr ⟨q, hq, h5 j z⟩)
    · exact a4 j (pi.mem_iff.mp (List.mem_append_left _ z))
  · by_cases z : x = q
    · rw [z, up1_at]
      exact ⟨h1, h2, fun y => (h3 y).trans ((a5 q hq).2.2 hl)⟩
    · rw [up1_ne hs _ z]; exact a5 x hx
  · have e2 : ∀ x, trw Std.DTreeMap.Internal.Impl.leaf x = 0 := fun _ => rfl
    rw [e2] at a8 ⊢
    have : trw T' (q % 24) ≤ trw (hs q) (q % 24) := by
      rw [trw_pos hl]
      unfold trw
      split
      · exact Nat.zero_le _
      · exact Nat.le_refl _
    omega
theorem rc_repl {M M' : Nat → Nat → Int32} {f w q : Nat} {hs : Hs} {T' : Tr} (h : wf hs .leaf w) (hRC : RC M f hs .leaf) (hq : q < 72) (hN : NC M' f (-1) T') (h20 : ∀ x, x < 72 → M' (f + 20) x = up1 (fun y => tr_no (hs y)) q (tr_no T') x) (hn : ∀ p j, 1 ≤ p ∧ p ≤ 9 → j ∉ tr_ids (hs q) → M' (f + 2 * p) j = M (f + 2 * p) j) (hi : ∀ p u, p = 11 ∨ p = 12 → u ∉ tr_its (hs q) → M' (f + 2 * p) u = M (f + 2 * p) u)
    (h5 : ∀ j ∈ tr_ids T', j ∈ tr_ids (hs q)) (h7 : ∀ u ∈ tr_its T', u ∈ tr_its (hs q)) (g1 : ∀ j ∈ tr_ids (hs q), j ∉ tr_ids T' → M' (f + 2) j = -1) (g2 : ∀ u ∈ tr_its (hs q), u ∉ tr_its T' → M' (f + 24) u = -1) : RC M' f (up1 hs q T') .leaf := by
  obtain ⟨a1, a2, -⟩ := h
  have e0 : tr_ids .leaf = [] := rfl
  have e1 : tr_its .leaf = [] := rfl
  rw [e0, List.append_nil] at a1
  rw [e1, List.append_nil] at a2
  have pi := aids_up (hs := hs) (q := q) .leaf hq
  have pt := aits_up (hs := hs) (q := q) .leaf hq
  rw [e0, List.nil_append] at pi
  rw [e1, List.nil_append] at pt
  obtain ⟨b1, b2, b3⟩ := List.nodup_append.mp (pi.nodup_iff.mpr a1)
  obtain ⟨c1, c2, c3⟩ := List.nodup_append.mp (pt.nodup_iff.mpr a2)
  refine ⟨fun x hx => ?_, trivial, fun j hj hj2 => ?_, fun u hu hu2 => ?_⟩
  · rw [h20 x hx]
    by_cases z : x = q
    · rw [z, up1_at, up1_at]; exact ⟨hN, rfl⟩
    · rw [up1_ne hs _ z, up1_ne _ _ z]
      have d1 : ∀ j ∈ tr_ids (hs x), j ∉ tr_ids (hs q) := fun j y1 y2 => b3 j (aids_mem.mpr ⟨x, hx, by rw [up1_ne hs _ z]; exact y1⟩) j y2 rfl
      have d2 : ∀ j ∈ tr_its (hs x), j ∉ tr_its (hs q) := fun j y1 y2 => c3 j (aits_mem.mpr ⟨x, hx, by rw [up1_ne hs _ z]; exact y1⟩) j y2 rfl
      exact ⟨(hRC.1 x hx).1.congr ⟨fun i y => ⟨hn 1 i (by decide) (d1 i y), hn 2 i (by decide) (d1 i y), hn 3 i (by decide) (d1 i y), hn 4 i (by decide) (d1 i y), hn 5 i (by decide) (d1 i y), hn 6 i (by decide) (d1 i y), hn 7 i (by decide) (d1 i y), hn 8 i (by decide) (d1 i y), hn 9 i (by decide) (d1 i y)⟩, fun t y => ⟨hi 11 t (Or.inl rfl) (d2 t y), hi 12 t (Or.inr rfl) (d2 t y)⟩⟩, rfl⟩
  · rw [e0, List.append_nil] at hj2
    have z : j ∉ tr_ids T' := fun y => hj2 (aids_mem.mpr ⟨q, hq, by rw [up1_at]; exact y⟩)
    by_cases y : j ∈ tr_ids (hs q)
    · exact g1 j y z
    · rw [show M' (f + 2) j = M (f + 2) j from hn 1 j (by decide) y]
      refine hRC.2.2.1 j hj (fun y2 => ?_)
      rw [e0, List.append_nil] at y2
      obtain ⟨x, hx, y3⟩ := aids_mem.mp y2
      have : x ≠ q := fun v => y (v ▸ y3)
      exact hj2 (aids_mem.mpr ⟨x, hx, by rw [up1_ne hs _ this]; exact y3⟩)
  · rw [e1, List.append_nil] at hu2
    have z : u ∉ tr_its T' := fun y => hu2 (aits_mem.mpr ⟨q, hq, by rw [up1_at]; exact y⟩)
    by_cases y : u ∈ tr_its (hs q)
    · exact g2 u y z
    · rw [show M' (f + 24) u = M (f + 24) u from hi 12 u (Or.inr rfl) y]
      refine hRC.2.2.2 u hu (fun y2 => ?_)
      rw [e1, List.append_nil] at y2
      obtain ⟨x, hx, y3⟩ := aits_mem.mp y2
      have : x ≠ q := fun v => y (v ▸ y3)
      exact hu2 (aits_mem.mpr ⟨x, hx, by rw [up1_ne hs _ this]; exact y3⟩)
theorem okA_take {lt : Nat → Nat → Bool} {A : AF} {w a t : Nat} {A' : AF} (h : okA A w) (ha : a < 3) (hw : w ≤ 1000) (e : takeA lt A a = some (t, A')) : okA A' w ∧ t < 20 ∧ A.2.1 t = nI a ∧ A'.2.1 = up1 A.2.1 t (-1) ∧ A'.2.2 = A.2.2 := by
  unfold takeA at e
  split at e
  next => cases e
  next r hr =>
    obtain ⟨hr1, hr2⟩ := lrF_ok hr
    have hq : 24 * a + r < 72 := by omega
    have hwf := h.1
    obtain ⟨a1, a2, a3, a4, a5, -, -, a8⟩ := h.1
    obtain ⟨x1, x2, x3⟩ := a5 _ hq
    have few := h.1.few.2
    have ee := aids_up (hs := A.1) (q := 24 * a + r) .leaf hq
    have pi := ee
    have pt := aits_up (hs := A.1) (q := 24 * a + r) .leaf hq
    rw [show tr_ids .leaf = [] from rfl, List.nil_append] at pi
    rw [show tr_its .leaf = [] from rfl, List.nil_append] at pt
    rw [show tr_ids .leaf = [] from rfl, List.append_nil] at a1
    rw [show tr_its .leaf = [] from rfl, List.append_nil] at a2 a3 few
    have hid := (List.nodup_append.mp (pi.nodup_iff.mpr a1)).2.1
    have hit := (List.nodup_append.mp (pt.nodup_iff.mpr a2)).2.1
    have hlen : (tr_its (A.1 (24 * a + r))).length ≤ 20 := by
      have := pt.length_eq
      rw [List.length_append] at this
      omega
    have hrk : tr_rk (A.1 (24 * a + r)) ≤ 16 := by
      have ps := wsum_up (hs := A.1) (q := 24 * a + r) .leaf hq
      have e2 : ∀ x, trw Std.DTreeMap.Internal.Impl.leaf x = 0 := fun _ => rfl
      rw [trw_pos hr2, e2, show (24 * a + r) % 24 = r by omega] at ps
      rw [e2] at a8
      have := pow_9 (r := r) (by omega)
      rw [x3 hr2]
      omega
    obtain ⟨y1, y2, y3, y4, y5, y6, y7, y8⟩ := takT_ok (lt := lt) x1 x2 hr2 hrk hid hit hlen
    cases e
    have hti := a3 _ (aits_mem.mpr ⟨_, hq, y8⟩)
    have hta : A.2.1 (takI (A.1 (24 * a + r))) = nI a := (h.2.2 _ a hti ha).mpr ⟨r, hr1, y8⟩
    refine ⟨⟨wf_repl hwf hq hr2 y1 y2 y3 y4 y5 y6 fun u hu => ((y7 u).mp hu).1, fun u hu => ?_, fun u b hu hb => ?_⟩, hti, hta, rfl, rfl⟩
    · show up1 A.2.1 _ (-1) u = -1 ∨ _
      by_cases z : u = takI (A.1 (24 * a + r))
      · rw [z, up1_at]; exact Or.inl rfl
      · have := h.2.1 u hu
        rcases this with y | ⟨b, hb, y⟩
        · exact Or.inl ((up1_ne _ _ z).trans y)
        · exact Or.inr ⟨b, hb, (up1_ne _ _ z).trans y⟩
    · show up1 A.2.1 _ (-1) u = nI b ↔ ∃ r', r' < 24 ∧ u ∈ tr_its (up1 A.1 (24 * a + r) (takT lt (A.1 (24 * a + r))) (24 * b + r'))
      by_cases z : u = takI (A.1 (24 * a + r))
      · rw [z, up1_at]
        constructor
        · intro y; exact absurd y.symm (nI_nm1 (by omega))
        · rintro ⟨r', g1, g2⟩
          exfalso
          by_cases g3 : 24 * b + r' = 24 * a + r
          · rw [g3, up1_at] at g2
            exact ((y7 _).mp g2).2 rfl
          · rw [up1_ne _ _ g3] at g2
            have := (h.2.2 _ b hti hb).mpr ⟨r', g1, g2⟩
            rw [hta, nI_eq (by omega) (by omega)] at this
            subst this
            exact (List.nodup_append.mp (pt.nodup_iff.mpr a2)).2.2 _ (aits_mem.mpr ⟨24 * a + r', by omega, by rw [up1_ne _ _ g3]; exact g2⟩) _ y8 rfl
      · rw [show up1 A.2.1 (takI (A.1 (24 * a + r))) (-1) u = A.2.1 u from up1_ne _ _ z, h.2.2 u b hu hb]
        constructor
        · rintro ⟨r', g1, g2⟩
          refine ⟨r', g1, ?_⟩
          by_cases g3 : 24 * b + r' = 24 * a + r
          · rw [g3, up1_at]; exact (y7 u).mpr ⟨g3 ▸ g2, z⟩
          · rw [up1_ne _ _ g3]; exact g2
        · rintro ⟨r', g1, g2⟩
          refine ⟨r', g1, ?_⟩
          by_cases g3 : 24 * b + r' = 24 * a + r
          · rw [g3, up1_at] at g2; rw [g3]; exact ((y7 u).mp g2).1
          · rw [up1_ne _ _ g3] at g2; exact g2
