/-! THE LAW's E: one descent, and the waiting signs -/
abbrev PS : Type := Nat × List Tk
abbrev Op : Type := Nat × Nat
abbrev PR : Type := PS × List Op
def hdT (ts : List Tk) : Tk := ts.headD (0, 0, [])
def tW (w : Nat) (t : Tk) : Bool := decide (t.2.1 = 1) && decide (wix t.2.2 = w)
def tS (c : Nat) (t : Tk) : Bool := decide (t.2.1 = 3) && decide (t.2.2.headD 0 = c)
def tN (t : Tk) : Bool := decide (t.2.1 = 2)
def fcT (t : Tk) : Option Nat := if tW 19 t = true then some 0 else if tW 20 t = true then some 1 else if tW 6 t = true then some 2 else if tW 21 t = true then some 3 else none
def opT (t : Tk) : Nat := if tW 17 t = true then 9 else if tW 18 t = true then 10 else if tS 60 t = true then 7 else if tS 61 t = true then 8 else if tS 43 t = true then 4 else if tS 45 t = true then 5 else if tS 42 t = true then 6 else 0
def lvK (k : Nat) : Nat := if k = 9 ∨ k = 10 then 1 else if k = 7 ∨ k = 8 then 2 else if k = 4 ∨ k = 5 then 3 else if k = 6 then 4 else 0
def lvT (ts : List Tk) : Nat := lvK (opT (hdT ts))
def lpB (p : PS → PR) (l : Nat) : Nat → PS → PR
  | 0, s => (s, [])
  | n + 1, s => if s.1 = 0 ∧ lvT s.2 = l then ((lpB p l n (p (0, s.2.tail)).1).1, (p (0, s.2.tail)).2 ++ (opT (hdT s.2), 0) :: (lpB p l n (p (0, s.2.tail)).1).2) else (s, [])
def lvl (p : PS → PR) (l : Nat) (s : PS) : PR := ((lpB p l (if l = 2 then 1 else (p s).1.2.length) (p s).1).1, (p s).2 ++ (lpB p l (if l = 2 then 1 else (p s).1.2.length) (p s).1).2)
def alo (p : PS → PR) : PS → PR := lvl (lvl (lvl (lvl p 4) 3) 2) 1
def stp (k : Nat) (s : PS) : PS := if s.1 = 0 then (if k = 0 then (0, s.2.tail) else (k, s.2)) else s
def stT (t : Tk) : Bool := tS 40 t || tW 16 t || tN t || (fcT t).isSome
def paO (t : Tk) : Op := if tN t = true then (1, nmv t.2.2) else (2, (fcT t).getD 0)
def prt : Nat → PS → PR
  | 0, s => if s.1 ≠ 0 then (s, []) else ((if stT (hdT s.2) = true then 5 else 1, s.2), [])
  | D + 1, s => if s.1 ≠ 0 then (s, []) else if stT (hdT s.2) = false then ((1, s.2), [])
      else if tW 16 (hdT s.2) = true then ((prt D (0, s.2.tail)).1, (prt D (0, s.2.tail)).2 ++ [(3, 0)])
      else if tS 40 (hdT s.2) = true then (stp (if tS 41 (hdT (alo (prt D) (0, s.2.tail)).1.2) = true then 0 else 1) (alo (prt D) (0, s.2.tail)).1, (alo (prt D) (0, s.2.tail)).2)
      else ((0, s.2.tail), [paO (hdT s.2)])
/-- the waiting signs -/
abbrev MS : Type := List Nat × List Op × Nat × Nat × Bool × List Tk
abbrev Out : Type := Nat × List Tk × List Op
def stl (l : Nat) : List Nat → List Op → List Nat × List Op
  | [], o => ([], o)
  | k :: r, o => if l ≤ lvK k then stl l r (o ++ [(k, 0)]) else (k :: r, o)
def enP : List Nat → List Op → Nat → List Nat × List Op × Nat
  | [], o, w => ([], o, w)
  | k :: r, o, w => if k = 3 then enP r (o ++ [(3, 0)]) (w - 1) else (k :: r, o, w)
def mkM (e : List Nat × List Op × Nat) (o : Nat) (ts : List Tk) : MS := (e.1, e.2.1, e.2.2, o, false, ts)
def stD (W : List Nat) (ops : List Op) (w o : Nat) (ts : List Tk) : MS ⊕ Out :=
  if stT (hdT ts) = false then .inr (1, ts, []) else if 5 ≤ w then .inr (5, ts, [])
  else if tS 40 (hdT ts) = true then (if W.length < 60 then .inl (11 :: W, ops, w + 1, o + 1, true, ts.tail) else .inr (99, [], []))
  else if tW 16 (hdT ts) = true then (if W.length < 60 then .inl (3 :: W, ops, w + 1, o, true, ts.tail) else .inr (99, [], []))
  else .inl (mkM (enP W (ops ++ [paO (hdT ts)]) w) o ts.tail)
def stJ (W : List Nat) (ops : List Op) (w o : Nat) (ts : List Tk) : MS ⊕ Out :=
  if o = 0 ∧ tS 59 (hdT ts) = true then .inr (0, ts, (stl 1 W ops).2)
  else if tS 41 (hdT ts) = true ∧ 0 < o then (if (stl 1 W ops).1.headD 0 = 11 then .inl (mkM (enP (stl 1 W ops).1.tail (stl 1 W ops).2 (w - 1)) (o - 1) ts.tail) else .inr (99, [], []))
  else if opT (hdT ts) = 0 then .inr (1, ts, [])
  else if lvT ts = 2 ∧ lvK ((stl 3 W ops).1.headD 0) = 2 then .inr (1, ts, [])
  else if (stl (lvT ts) W ops).1.length < 60 then .inl (opT (hdT ts) :: (stl (lvT ts) W ops).1, (stl (lvT ts) W ops).2, w, o, true, ts.tail) else .inr (99, [], [])
def stM : MS → MS ⊕ Out
  | (W, ops, w, o, true, ts) => stD W ops w o ts
  | (W, ops, w, o, false, ts) => stJ W ops w o ts
def go : Nat → MS → Option Out
  | 0, _ => none
  | n + 1, s => match stM s with
    | .inl s' => go n s'
    | .inr r => some r
def Rn (E : Out → Prop) (s : MS) : Prop := ∃ n r, go n s = some r ∧ E r
theorem Rn.step {E : Out → Prop} {s s' : MS} (h : stM s = .inl s') (k : Rn E s') : Rn E s := by
  obtain ⟨n, r, a, b⟩ := k
  refine ⟨n + 1, r, ?_, b⟩
  rw [go, h]; exact a
theorem Rn.fin {E : Out → Prop} {s : MS} {r : Out} (h : stM s = .inr r) (k : E r) : Rn E s := ⟨1, r, by rw [go, h], k⟩
theorem Rn.eq {E : Out → Prop} {s s' : MS} (h : stM s = stM s') (k : Rn E s') : Rn E s := by
  obtain ⟨n, r, a, b⟩ := k
  cases n with
  | zero => cases a
  | succ n =>
    refine ⟨n + 1, r, ?_, b⟩
    rw [go] at a ⊢
    rw [h]; exact a
theorem lvK_0 {t : Tk} (h : lvK (opT t) = 0) : opT t = 0 := by
  unfold opT at h ⊢
  split
  next c => rw [if_pos c] at h; cases h
  next c1 =>
    rw [if_neg c1] at h
    split
    next c => rw [if_pos c] at h; cases h
    next c2 =>
      rw [if_neg c2] at h
      split
      next c => rw [if_pos c] at h; cases h
      next c3 =>
        rw [if_neg c3] at h
        split
        next c => rw [if_pos c] at h; cases h
        next c4 =>
          rw [if_neg c4] at h
          split
          next c => rw [if_pos c] at h; cases h
          next c5 =>
            rw [if_neg c5] at h
            split
            next c => rw [if_pos c] at h; cases h
            next c6 =>
              rw [if_neg c6] at h
              split
              next c => rw [if_pos c] at h; cases h
              next c7 => rfl
theorem tS_ne {c c' : Nat} {t : Tk} (h : tS c t = true) (hc : c ≠ c') : tS c' t = false := by
  unfold tS at *
  rw [Bool.and_eq_true, decide_eq_true_iff, decide_eq_true_iff] at h
  rw [h.2, decide_eq_false hc, Bool.and_false]
theorem tS_tW {c w : Nat} {t : Tk} (h : tS c t = true) : tW w t = false := by
  unfold tS at h
  rw [Bool.and_eq_true, decide_eq_true_iff, decide_eq_true_iff] at h
  unfold tW
  rw [h.1]; rfl
theorem opT_59 {t : Tk} (h : tS 59 t = true) : opT t = 0 := by
  unfold opT
  rw [tS_tW h, tS_tW h, tS_ne h (by decide), tS_ne h (by decide), tS_ne h (by decide), tS_ne h (by decide), tS_ne h (by decide)]
  rfl
theorem opT_41 {t : Tk} (h : tS 41 t = true) : opT t = 0 := by
  unfold opT
  rw [tS_tW h, tS_tW h, tS_ne h (by decide), tS_ne h (by decide), tS_ne h (by decide), tS_ne h (by decide), tS_ne h (by decide)]
  rfl
theorem lvT_59 {ts : List Tk} (h : lvT ts ≠ 0) : ¬ tS 59 (hdT ts) = true ∧ ¬ tS 41 (hdT ts) = true ∧ opT (hdT ts) ≠ 0 := by
  refine ⟨fun q => h ?_, fun q => h ?_, fun q => h ?_⟩
  · unfold lvT; rw [opT_59 q]; rfl
  · unfold lvT; rw [opT_41 q]; rfl
  · unfold lvT; rw [q]; rfl
theorem lvK_le (k : Nat) : lvK k ≤ 4 := by
  unfold lvK
  split
  · decide
  · split
    · decide
    · split
      · decide
      · split <;> decide
theorem stl_no {l : Nat} {P : List Nat} {ops : List Op} (h : lvK (P.headD 0) < l) : stl l P ops = (P, ops) := by
  cases P with
  | nil => rfl
  | cons k r =>
    rw [stl, if_neg (show ¬ l ≤ lvK k from Nat.not_le.mpr h)]
theorem stl_s {l k : Nat} {P : List Nat} {ops : List Op} (h : l ≤ lvK k) : stl l (k :: P) ops = stl l P (ops ++ [(k, 0)]) := by rw [stl, if_pos h]
theorem enP_no {P : List Nat} {ops : List Op} {w : Nat} (h : P.headD 0 ≠ 3) : enP P ops w = (P, ops, w) := by
  cases P with
  | nil => rfl
  | cons k r => rw [enP, if_neg (show ¬ k = 3 from h)]
theorem pre_settle {k : Nat} {P : List Nat} {ops : List Op} {w o : Nat} {ts : List Tk} (h1 : 1 ≤ lvK k) (h2 : lvT ts ≤ lvK k) (h3 : lvT ts = 2 → 3 ≤ lvK k) : stM (k :: P, ops, w, o, false, ts) = stM (P, ops ++ [(k, 0)], w, o, false, ts) := by
  show stJ _ _ _ _ _ = stJ _ _ _ _ _
  unfold stJ
  rw [stl_s h1]
  by_cases c : lvT ts = 2
  · rw [stl_s (h3 c), stl_s h2]
  · rw [if_neg (c := lvT ts = 2 ∧ lvK ((stl 3 (k :: P) ops).1.headD 0) = 2) (fun q => c q.1), if_neg (c := lvT ts = 2 ∧ lvK ((stl 3 P (ops ++ [(k, 0)])).1.headD 0) = 2) (fun q => c q.1), stl_s h2]
/-- what every part keeps -/
def Sm (p : PS → PR) : Prop := ∀ s : PS, (p s).1.2.length ≤ s.2.length ∧ (s.1 ≠ 0 → p s = (s, []))
def Hd (p : PS → PR) (l : Nat) : Prop := ∀ s : PS, (p s).1.1 = 0 → lvT (p s).1.2 < l ∨ (l ≤ 2 ∧ lvT (p s).1.2 = 2)
theorem lpB_sm {p : PS → PR} {l : Nat} (h : Sm p) : ∀ (n : Nat) (s : PS), (lpB p l n s).1.2.length ≤ s.2.length ∧ (s.1 ≠ 0 → lpB p l n s = (s, []))
  | 0, s => ⟨Nat.le_refl _, fun _ => rfl⟩
  | n + 1, s => by
    rw [lpB]
    by_cases c : s.1 = 0 ∧ lvT s.2 = l
    · rw [if_pos c]
      have a := (lpB_sm (l := l) h n (p (0, s.2.tail)).1).1
      have b := (h (0, s.2.tail)).1
      have e : s.2.tail.length ≤ s.2.length := by rw [List.length_tail]; omega
      exact ⟨Nat.le_trans a (Nat.le_trans b e), fun q => absurd c.1 q⟩
    · rw [if_neg c]; exact ⟨Nat.le_refl _, fun _ => rfl⟩
theorem lvl_sm {p : PS → PR} {l : Nat} (h : Sm p) : Sm (lvl p l) := by
  intro s
  refine ⟨Nat.le_trans (lpB_sm h _ _).1 (h s).1, fun q => ?_⟩
  unfold lvl
  rw [(h s).2 q, (lpB_sm (l := l) h _ (s, ([] : List Op)).1).2 q]
  rfl
theorem stp_sm (k : Nat) (s : PS) : (stp k s).2.length ≤ s.2.length ∧ (s.1 ≠ 0 → stp k s = s) := by
  unfold stp
  by_cases c : s.1 = 0
  · rw [if_pos c]
    refine ⟨?_, fun q => absurd c q⟩
    split
    · show s.2.tail.length ≤ _
      rw [List.length_tail]; omega
    · exact Nat.le_refl _
  · rw [if_neg c]; exact ⟨Nat.le_refl _, fun _ => rfl⟩
theorem prt_sm : ∀ D : Nat, Sm (prt D)
  | 0 => by
    intro s
    rw [prt]
    by_cases c : s.1 ≠ 0
    · rw [if_pos c]; exact ⟨Nat.le_refl _, fun _ => rfl⟩
    · rw [if_neg c]; exact ⟨Nat.le_refl _, fun q => absurd q c⟩
  | D + 1 => by
    intro s
    have ih := prt_sm D
    have e : s.2.tail.length ≤ s.2.length := by rw [List.length_tail]; omega
    rw [prt]
    by_cases c : s.1 ≠ 0
    · rw [if_pos c]; exact ⟨Nat.le_refl _, fun _ => rfl⟩
    · rw [if_neg c]
      refine ⟨?_, fun q => absurd q c⟩
      split
      · exact Nat.le_refl _
      · split
        · exact Nat.le_trans (ih _).1 e
        · split
          · exact Nat.le_trans (stp_sm _ _).1 (Nat.le_trans (lvl_sm (lvl_sm (lvl_sm (lvl_sm ih))) _).1 e)
          · exact e
theorem lpB_hd {p : PS → PR} {l : Nat} (hs : Sm p) (hp : Hd p (l + 1)) (l2 : l ≠ 2) (l0 : 0 < l) : ∀ (n : Nat) (s : PS), s.2.length ≤ n → (s.1 = 0 → lvT s.2 < l + 1 ∨ (l + 1 ≤ 2 ∧ lvT s.2 = 2)) → (lpB p l n s).1.1 = 0 → lvT (lpB p l n s).1.2 < l ∨ (l ≤ 2 ∧ lvT (lpB p l n s).1.2 = 2)
  | 0, s, hn, hh, h0 => by
    have e : s.2 = [] := List.length_eq_zero_iff.mp (by omega)
    have z : lvT s.2 = 0 := by rw [e]; rfl
    rcases hh h0 with q | q
    · exact Or.inl (show lvT s.2 < l by omega)
    · exact Or.inr ⟨by omega, q.2⟩
  | n + 1, s, hn, hh, h0 => by
    rw [lpB] at h0 ⊢
    by_cases c : s.1 = 0 ∧ lvT s.2 = l
    · rw [if_pos c] at h0 ⊢
      refine lpB_hd hs hp l2 l0 n _ ?_ (hp _) h0
      have b := (hs (0, s.2.tail)).1
      have e : s.2.tail.length = s.2.length - 1 := List.length_tail
      have b' : (p (0, s.2.tail)).1.2.length ≤ s.2.tail.length := b
      omega
    · rw [if_neg c] at h0 ⊢
      have h0 : s.1 = 0 := h0
      have ne : lvT s.2 ≠ l := fun q => c ⟨h0, q⟩
      rcases hh h0 with q | q
      · exact Or.inl (show lvT s.2 < l by omega)
      · exact Or.inr ⟨by omega, q.2⟩
theorem lvl_hd {p : PS → PR} {l : Nat} (hs : Sm p) (hp : Hd p (l + 1)) (l0 : 0 < l) : Hd (lvl p l) l := by
  intro s h
  unfold lvl at h ⊢
  by_cases l2 : l = 2
  · subst l2
    rw [if_pos rfl, lpB] at h ⊢
    by_cases c : (p s).1.1 = 0 ∧ lvT (p s).1.2 = 2
    · rw [if_pos c] at h ⊢
      have h : (p (0, (p s).1.2.tail)).1.1 = 0 := h
      show lvT (p (0, (p s).1.2.tail)).1.2 < 2 ∨ (2 ≤ 2 ∧ lvT (p (0, (p s).1.2.tail)).1.2 = 2)
      have := hp _ h
      omega
    · rw [if_neg c] at h ⊢
      have h : (p s).1.1 = 0 := h
      have := hp _ h
      left
      show lvT (p s).1.2 < 2
      have : lvT (p s).1.2 ≠ 2 := fun q => c ⟨h, q⟩
      omega
  · rw [if_neg l2] at h ⊢
    exact lpB_hd hs hp l2 l0 _ _ (Nat.le_refl _) (hp s) h
theorem hd_5 (p : PS → PR) : Hd p 5 := fun s _ => Or.inl (Nat.lt_succ_of_le (lvK_le _))
/-- a part, a level: what the waiting signs do -/
def PtM (E : Out → Prop) (p : PS → PR) (D : Nat) : Prop := ∀ (W : List Nat) (ops : List Op) (w o : Nat) (ts : List Tk), w + D = 5 → W.length ≤ 5 * w + 4 →
  ((p (0, ts)).1.1 ≠ 0 → E ((p (0, ts)).1.1, (p (0, ts)).1.2, [])) →
  ((p (0, ts)).1.1 = 0 → Rn E (mkM (enP W (ops ++ (p (0, ts)).2) w) o (p (0, ts)).1.2)) → Rn E (W, ops, w, o, true, ts)
def LvM (E : Out → Prop) (p : PS → PR) (l D : Nat) : Prop := ∀ (P : List Nat) (ops : List Op) (w o : Nat) (ts : List Tk), w + D = 5 → P.length + 1 ≤ 5 * w + l → P.headD 0 ≠ 3 → lvK (P.headD 0) < l →
  ((p (0, ts)).1.1 ≠ 0 → E ((p (0, ts)).1.1, (p (0, ts)).1.2, [])) →
  ((p (0, ts)).1.1 = 0 → l ≤ 2 → lvT (p (0, ts)).1.2 = 2 → E (1, (p (0, ts)).1.2, [])) →
  ((p (0, ts)).1.1 = 0 → (l ≤ 2 → lvT (p (0, ts)).1.2 ≠ 2) → Rn E (P, ops ++ (p (0, ts)).2, w, o, false, (p (0, ts)).1.2)) → Rn E (P, ops, w, o, true, ts)
theorem PtM.lv {E : Out → Prop} {p : PS → PR} {D : Nat} (h : PtM E p D) : LvM E p 5 D := by
  intro P ops w o ts hw hl h3 hv k1 k2 k3
  refine h P ops w o ts hw (by omega) k1 (fun q => ?_)
  rw [enP_no h3]
  exact k3 q (fun z => absurd z (by decide))
theorem hold_M {E : Out → Prop} {P : List Nat} {ops : List Op} {w o : Nat} {ts : List Tk} (h0 : lvT ts ≠ 0) (hv : lvK (P.headD 0) < lvT ts) (hl : P.length < 60) (k : Rn E (opT (hdT ts) :: P, ops, w, o, true, ts.tail)) : Rn E (P, ops, w, o, false, ts) := by
  obtain ⟨a1, a2, a3⟩ := lvT_59 h0
  refine Rn.step (s' := (opT (hdT ts) :: P, ops, w, o, true, ts.tail)) ?_ k
  show stJ _ _ _ _ _ = _
  unfold stJ
  rw [if_neg (fun q => a1 q.2), if_neg (fun q => a2 q.1), if_neg a3, if_neg, stl_no hv, if_pos hl]
  rintro ⟨q1, q2⟩
  rw [stl_no (by omega)] at q2
  have : lvK (P.headD 0) = 2 := q2
  omega
theorem LvM.loop {E : Out → Prop} {p : PS → PR} {l D : Nat} (h : LvM E p (l + 1) D) (hs : Sm p) (hp : Hd p (l + 1)) (l0 : 0 < l) (l2 : l ≠ 2) (l4 : l ≤ 4) {P : List Nat} {w o : Nat} (hw : w + D = 5) (hl : P.length + 1 ≤ 5 * w + l) (h3 : P.headD 0 ≠ 3) (hv : lvK (P.headD 0) < l) : ∀ (n : Nat) (ops : List Op) (ts : List Tk), ts.length ≤ n → lvT ts ≤ l →
    ((lpB p l n (0, ts)).1.1 ≠ 0 → E ((lpB p l n (0, ts)).1.1, (lpB p l n (0, ts)).1.2, [])) →
    ((lpB p l n (0, ts)).1.1 = 0 → l ≤ 2 → lvT (lpB p l n (0, ts)).1.2 = 2 → E (1, (lpB p l n (0, ts)).1.2, [])) →
    ((lpB p l n (0, ts)).1.1 = 0 → (l ≤ 2 → lvT (lpB p l n (0, ts)).1.2 ≠ 2) → Rn E (P, ops ++ (lpB p l n (0, ts)).2, w, o, false, (lpB p l n (0, ts)).1.2)) → Rn E (P, ops, w, o, false, ts)
  | 0, ops, ts, hn, hm, k1, k2, k3 => by
    have e : ts = [] := List.length_eq_zero_iff.mp (by omega)
    have z : lvT ts = 0 := by rw [e]; rfl
    have := k3 rfl (fun _ => by show lvT ts ≠ 2; omega)
    have this : Rn E (P, ops ++ [], w, o, false, ts) := this
    rwa [List.append_nil] at this
  | n + 1, ops, ts, hn, hm, k1, k2, k3 => by
    by_cases c : lvT ts = l
    · rw [lpB, if_pos ⟨rfl, c⟩] at k1 k2 k3
      have lk : lvK (opT (hdT ts)) = l := c
      refine hold_M (by omega) (by omega) (by omega) ?_
      have tl : ts ≠ [] := by
        intro q
        rw [q] at c
        have : (0 : Nat) = l := c
        omega
      have tl2 : ts.tail.length = ts.length - 1 := List.length_tail
      have tl3 : 0 < ts.length := List.length_pos_iff.mpr tl
      have sm := (hs (0, ts.tail)).1
      have sm : (p (0, ts.tail)).1.2.length ≤ ts.tail.length := sm
      have hh := hp (0, ts.tail)
      refine h (opT (hdT ts) :: P) ops w o ts.tail hw (by rw [List.length_cons]; omega) ?_ (show lvK (opT (hdT ts)) < l + 1 by omega) ?_ ?_ ?_
      · show opT (hdT ts) ≠ 3
        intro q
        rw [q] at lk
        have : (0 : Nat) = l := lk
        omega
      · intro f
        have e := (lpB_sm (l := l) hs n (p (0, ts.tail)).1).2 f
        have e : lpB p l n (p (0, (0, ts).2.tail)).1 = ((p (0, ts.tail)).1, []) := e
        rw [e] at k1
        exact k1 f
      · intro f q1 q2
        have e : lpB p l n (p (0, (0, ts).2.tail)).1 = ((p (0, ts.tail)).1, []) := by
          cases n with
          | zero => rfl
          | succ n => rw [lpB, if_neg]; intro q; have : lvT (p (0, ts.tail)).1.2 = l := q.2; omega
        rw [e] at k2
        exact k2 f (by omega) q2
      · intro f q
        have m1 : lvT (p (0, ts.tail)).1.2 ≤ l := by
          rcases hh f with z | z
          · omega
          · exact absurd z.2 (q z.1)
        refine Rn.eq (pre_settle (by omega) (by omega) (fun z => ?_)) ?_
        · have : ¬ l + 1 ≤ 2 := fun y => q y z
          omega
        · have ep : (p (0, ts.tail)).1 = (0, (p (0, ts.tail)).1.2) := Prod.ext f rfl
          have e : lpB p l n (p (0, (0, ts).2.tail)).1 = lpB p l n (0, (p (0, ts.tail)).1.2) := congrArg (lpB p l n) ep
          rw [e] at k1 k2 k3
          refine LvM.loop h hs hp l0 l2 l4 hw hl h3 hv n _ _ (by omega) m1 k1 k2 (fun a b => ?_)
          have := k3 a b
          rw [show ops ++ (p (0, ts.tail)).2 ++ [(opT (hdT ts), 0)] ++ (lpB p l n (0, (p (0, ts.tail)).1.2)).2 = ops ++ ((p (0, ts.tail)).2 ++ (opT (hdT ts), 0) :: (lpB p l n (0, (p (0, ts.tail)).1.2)).2) by simp]
          exact this
    · rw [lpB, if_neg (fun q => c q.2)] at k1 k2 k3
      have := k3 rfl (fun z => by show lvT ts ≠ 2; omega)
      have this : Rn E (P, ops ++ [], w, o, false, ts) := this
      rwa [List.append_nil] at this
theorem LvM.down {E : Out → Prop} {p : PS → PR} {l D : Nat} (h : LvM E p (l + 1) D) (hs : Sm p) (hp : Hd p (l + 1)) (l0 : 0 < l) (l4 : l ≤ 4) : LvM E (lvl p l) l D := by
  intro P ops w o ts hw hl h3 hv k1 k2 k3
  have ep : (p (0, ts)).1.1 = 0 → (p (0, ts)).1 = (0, (p (0, ts)).1.2) := fun f => Prod.ext f rfl
  by_cases l2 : l = 2
  · subst l2
    unfold lvl at k1 k2 k3
    rw [if_pos rfl, lpB] at k1 k2 k3
    refine h P ops w o ts hw (by omega) h3 (by omega) (fun f => ?_) (fun f q => absurd q (by decide)) (fun f _ => ?_)
    · rw [if_neg (fun q => f q.1)] at k1
      exact k1 f
    · have m1 : lvT (p (0, ts)).1.2 ≤ 2 := by have := hp (0, ts) f; omega
      by_cases c : lvT (p (0, ts)).1.2 = 2
      · rw [if_pos ⟨f, c⟩] at k1 k2 k3
        have lk : lvK (opT (hdT (p (0, ts)).1.2)) = 2 := c
        refine hold_M (by omega) (by omega) (by omega) ?_
        refine h _ _ w o (p (0, ts)).1.2.tail hw (by rw [List.length_cons]; omega) ?_ (show lvK (opT (hdT (p (0, ts)).1.2)) < 3 by omega) (fun f1 => k1 f1) (fun f1 q => absurd q (by decide)) (fun f1 _ => ?_)
        · show opT (hdT (p (0, ts)).1.2) ≠ 3
          intro q
          rw [q] at lk
          cases lk
        · have m2 : lvT (p (0, (p (0, ts)).1.2.tail)).1.2 ≤ 2 := by have := hp (0, (p (0, ts)).1.2.tail) f1; omega
          by_cases c2 : lvT (p (0, (p (0, ts)).1.2.tail)).1.2 = 2
          · refine Rn.fin (r := (1, (p (0, (p (0, ts)).1.2.tail)).1.2, [])) ?_ (k2 f1 (Nat.le_refl _) c2)
            obtain ⟨a1, a2, a3⟩ := lvT_59 (ts := (p (0, (p (0, ts)).1.2.tail)).1.2) (by omega)
            show stJ _ _ _ _ _ = _
            unfold stJ
            rw [if_neg (fun q => a1 q.2), if_neg (fun q => a2 q.1), if_neg a3, if_pos]
            refine ⟨c2, ?_⟩
            rw [stl_no (show lvK (opT (hdT (p (0, ts)).1.2)) < 3 by omega)]
            exact lk
          · refine Rn.eq (pre_settle (by omega) (by omega) (fun z => absurd z c2)) ?_
            have := k3 f1 (fun _ => c2)
            rw [show ops ++ (p (0, ts)).2 ++ (p (0, (p (0, ts)).1.2.tail)).2 ++ [(opT (hdT (p (0, ts)).1.2), 0)] = ops ++ ((p (0, ts)).2 ++ ((p (0, (p (0, ts)).1.2.tail)).2 ++ [(opT (hdT (p (0, ts)).1.2), 0)])) by simp]
            exact this
      · rw [if_neg (fun q => c q.2)] at k1 k2 k3
        have := k3 f (fun _ => c)
        have this : Rn E (P, ops ++ ((p (0, ts)).2 ++ []), w, o, false, (p (0, ts)).1.2) := this
        rwa [List.append_nil] at this
  · unfold lvl at k1 k2 k3
    rw [if_neg l2] at k1 k2 k3
    refine h P ops w o ts hw (by omega) h3 (by omega) (fun f => ?_) (fun f q1 q2 => ?_) (fun f q => ?_)
    · have e := (lpB_sm (l := l) hs (p (0, ts)).1.2.length (p (0, ts)).1).2 f
      rw [e] at k1
      exact k1 f
    · have e : lpB p l (p (0, ts)).1.2.length (p (0, ts)).1 = ((p (0, ts)).1, []) := by
        cases (p (0, ts)).1.2.length with
        | zero => rfl
        | succ n => rw [lpB, if_neg]; intro q; have : lvT (p (0, ts)).1.2 = l := q.2; omega
      rw [e] at k2
      exact k2 f (by omega) q2
    · have m1 : lvT (p (0, ts)).1.2 ≤ l := by
        rcases hp (0, ts) f with z | z
        · omega
        · exact absurd z.2 (q z.1)
      have e : lpB p l (p (0, ts)).1.2.length (p (0, ts)).1 = lpB p l (p (0, ts)).1.2.length (0, (p (0, ts)).1.2) := congrArg (lpB p l _) (ep f)
      rw [e] at k1 k2 k3
      refine LvM.loop h hs hp l0 l2 l4 hw hl h3 hv _ _ _ (Nat.le_refl _) m1 k1 k2 (fun a b => ?_)
      have := k3 a b
      rw [List.append_assoc]
      exact this
theorem alo_M {E : Out → Prop} {p : PS → PR} {D : Nat} (h : PtM E p D) (hs : Sm p) : LvM E (alo p) 1 D ∧ Hd (alo p) 1 := by
  have s4 := lvl_sm (l := 4) hs
  have s3 := lvl_sm (l := 3) s4
  have s2 := lvl_sm (l := 2) s3
  have d4 := lvl_hd (l := 4) hs (hd_5 p) (by decide)
  have d3 := lvl_hd (l := 3) s4 d4 (by decide)
  have d2 := lvl_hd (l := 2) s3 d3 (by decide)
  have m4 := LvM.down (l := 4) h.lv hs (hd_5 p) (by decide) (by decide)
  have m3 := LvM.down (l := 3) m4 s4 d4 (by decide) (by decide)
  have m2 := LvM.down (l := 2) m3 s3 d3 (by decide) (by decide)
  exact ⟨LvM.down (l := 1) m2 s2 d2 (by decide) (by decide), lvl_hd (l := 1) s2 d2 (by decide)⟩
theorem prt_M {E : Out → Prop} : ∀ D : Nat, PtM E (prt D) D
  | 0 => by
    intro W ops w o ts hw hl k1 k2
    rw [prt, if_neg (show ¬ (0, ts).1 ≠ 0 from fun q => q rfl)] at k1 k2
    by_cases c : stT (hdT ts) = true
    · rw [if_pos c] at k1
      refine Rn.fin (r := (5, ts, [])) ?_ (k1 (show (5 : Nat) ≠ 0 by decide))
      show stD _ _ _ _ _ = _
      unfold stD
      rw [if_neg (by rw [c]; decide), if_pos (by omega)]
    · rw [if_neg c] at k1
      refine Rn.fin (r := (1, ts, [])) ?_ (k1 (show (1 : Nat) ≠ 0 by decide))
      show stD _ _ _ _ _ = _
      unfold stD
      rw [if_pos (by simpa using c)]
  | D + 1 => by
    intro W ops w o ts hw hl k1 k2
    have ih := prt_M (E := E) D
    rw [prt, if_neg (show ¬ (0, ts).1 ≠ 0 from fun q => q rfl)] at k1 k2
    by_cases c : stT (hdT ts) = false
    · rw [if_pos c] at k1
      refine Rn.fin (r := (1, ts, [])) ?_ (k1 (show (1 : Nat) ≠ 0 by decide))
      show stD _ _ _ _ _ = _
      unfold stD
      rw [if_pos c]
    · rw [if_neg c] at k1 k2
      by_cases c1 : tW 16 (hdT ts) = true
      · rw [if_pos c1] at k1 k2
        have n40 : ¬ tS 40 (hdT ts) = true := fun q => by rw [tS_tW q] at c1; cases c1
        refine Rn.step (s' := (3 :: W, ops, w + 1, o, true, ts.tail)) ?_ ?_
        · show stD _ _ _ _ _ = _
          unfold stD
          rw [if_neg c, if_neg (by omega), if_neg n40, if_pos c1, if_pos (by omega)]
        · refine ih (3 :: W) ops (w + 1) o ts.tail (by omega) (by rw [List.length_cons]; omega) k1 (fun f => ?_)
          have := k2 f
          rw [enP, if_pos rfl, show w + 1 - 1 = w by omega, List.append_assoc]
          exact this
      · rw [if_neg c1] at k1 k2
        by_cases c2 : tS 40 (hdT ts) = true
        · rw [if_pos c2] at k1 k2
          obtain ⟨m, hd⟩ := alo_M ih (prt_sm D)
          refine Rn.step (s' := (11 :: W, ops, w + 1, o + 1, true, ts.tail)) ?_ ?_
          · show stD _ _ _ _ _ = _
            unfold stD
            rw [if_neg c, if_neg (by omega), if_pos c2, if_pos (by omega)]
          · have k1 : (stp (if tS 41 (hdT (alo (prt D) (0, ts.tail)).1.2) = true then 0 else 1) (alo (prt D) (0, ts.tail)).1).1 ≠ 0 → E ((stp (if tS 41 (hdT (alo (prt D) (0, ts.tail)).1.2) = true then 0 else 1) (alo (prt D) (0, ts.tail)).1).1, (stp (if tS 41 (hdT (alo (prt D) (0, ts.tail)).1.2) = true then 0 else 1) (alo (prt D) (0, ts.tail)).1).2, []) := k1
            have k2 : (stp (if tS 41 (hdT (alo (prt D) (0, ts.tail)).1.2) = true then 0 else 1) (alo (prt D) (0, ts.tail)).1).1 = 0 → Rn E (mkM (enP W (ops ++ (alo (prt D) (0, ts.tail)).2) w) o (stp (if tS 41 (hdT (alo (prt D) (0, ts.tail)).1.2) = true then 0 else 1) (alo (prt D) (0, ts.tail)).1).2) := k2
            refine m (11 :: W) ops (w + 1) (o + 1) ts.tail (by omega) (by rw [List.length_cons]; omega) (show (11 : Nat) ≠ 3 by decide) (show lvK 11 < 1 by decide) (fun f => ?_) (fun f _ q => ?_) (fun f q => ?_)
            · have e := (stp_sm (if tS 41 (hdT (alo (prt D) (0, ts.tail)).1.2) = true then 0 else 1) (alo (prt D) (0, ts.tail)).1).2 f
              rw [e] at k1
              exact k1 f
            · have n41 := (lvT_59 (ts := (alo (prt D) (0, ts.tail)).1.2) (by omega)).2.1
              rw [if_neg n41] at k1
              unfold stp at k1
              rw [if_pos f, if_neg (by decide)] at k1
              exact k1 (show (1 : Nat) ≠ 0 by decide)
            · have m0 : lvT (alo (prt D) (0, ts.tail)).1.2 = 0 := by
                rcases hd _ f with z | z
                · omega
                · exact absurd z.2 (q (by decide))
              unfold stp at k1 k2
              rw [if_pos f] at k1 k2
              by_cases c4 : tS 41 (hdT (alo (prt D) (0, ts.tail)).1.2) = true
              · rw [if_pos c4, if_pos rfl] at k2
                refine Rn.step ?_ (k2 rfl)
                show stJ _ _ _ _ _ = _
                unfold stJ
                rw [if_neg (by omega), if_pos ⟨c4, by omega⟩, stl_no (show lvK 11 < 1 by decide)]
                exact if_pos rfl
              · rw [if_neg c4, if_neg (by decide)] at k1
                refine Rn.fin ?_ (k1 (show (1 : Nat) ≠ 0 by decide))
                show stJ _ _ _ _ _ = _
                unfold stJ
                rw [if_neg (by omega), if_neg (fun q => c4 q.1), if_pos (lvK_0 m0)]
        · rw [if_neg c2] at k2
          refine Rn.step ?_ (k2 rfl)
          show stD _ _ _ _ _ = _
          unfold stD
          rw [if_neg c, if_neg (by omega), if_neg c2, if_neg c1]
/-- the whole E: what comes out of it, by one descent -/
def lawE (ts : List Tk) : Out :=
  if (alo (prt 5) (0, ts)).1.1 ≠ 0 then ((alo (prt 5) (0, ts)).1.1, (alo (prt 5) (0, ts)).1.2, [])
  else if tS 59 (hdT (alo (prt 5) (0, ts)).1.2) = true then (0, (alo (prt 5) (0, ts)).1.2, (alo (prt 5) (0, ts)).2) else (1, (alo (prt 5) (0, ts)).1.2, [])
theorem law_M (ts : List Tk) : ∃ n, go n ([], [], 0, 0, true, ts) = some (lawE ts) := by
  suffices h : Rn (fun r => r = lawE ts) ([], [], 0, 0, true, ts) by
    obtain ⟨n, r, a, b⟩ := h
    exact ⟨n, by rw [a, b]⟩
  obtain ⟨m, hd⟩ := alo_M (E := fun r => r = lawE ts) (prt_M 5) (prt_sm 5)
  refine m [] [] 0 0 ts rfl (by decide) (by decide) (show (0 : Nat) < 1 by decide) (fun f => ?_) (fun f _ q => ?_) (fun f q => ?_)
  · unfold lawE
    rw [if_pos f]
  · unfold lawE
    rw [if_neg (fun z => z f), if_neg (lvT_59 (by omega)).1]
  · have m0 : lvT (alo (prt 5) (0, ts)).1.2 = 0 := by
      rcases hd _ f with z | z
      · omega
      · exact absurd z.2 (q (by decide))
    by_cases c : tS 59 (hdT (alo (prt 5) (0, ts)).1.2) = true
    · refine Rn.fin (r := (0, (alo (prt 5) (0, ts)).1.2, (alo (prt 5) (0, ts)).2)) ?_ ?_
      · show stJ _ _ _ _ _ = _
        unfold stJ
        rw [if_pos ⟨rfl, c⟩]
        rfl
      · unfold lawE
        rw [if_neg (fun z => z f), if_pos c]
    · refine Rn.fin (r := (1, (alo (prt 5) (0, ts)).1.2, [])) ?_ ?_
      · show stJ _ _ _ _ _ = _
        unfold stJ
        rw [if_neg (fun z => c z.2), if_neg (by omega), if_pos (lvK_0 m0)]
      · unfold lawE
        rw [if_neg (fun z => z f), if_neg c]
