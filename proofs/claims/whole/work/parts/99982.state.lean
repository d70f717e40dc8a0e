/-! THE STATE OF ALL: the TAPE, a QUEUE, a WORK, where all is, what can be undone, SEEN, SHUT, MARKS -/
abbrev Sta : Type := List Nat × Pl × List Ln × AF × List AF × List Sn × Nat × (Nat → Option (AF × List Sn))
abbrev sT (s : Sta) : List Nat := s.1
abbrev sP (s : Sta) : Pl := s.2.1
abbrev sW (s : Sta) : List Ln := s.2.2.1
abbrev sA (s : Sta) : AF := s.2.2.2.1
abbrev sU (s : Sta) : List AF := s.2.2.2.2.1
abbrev sS (s : Sta) : List Sn := s.2.2.2.2.2.1
abbrev sN (s : Sta) : Nat := s.2.2.2.2.2.2.1
abbrev sM (s : Sta) : Nat → Option (AF × List Sn) := s.2.2.2.2.2.2.2
abbrev pHn (P : Pl) : Nat := (pH P).length
abbrev pSs (P : Pl) : Nat := (pS P).length
abbrev pN (P : Pl) : Nat := (pI P).length
def ksP (P : Pl) (t : Nat) : Nat := keyS ((pI P).getD t itO).2.1 ((pI P).getD t itO).2.2.1 ((pI P).getD t itO).2.2.2.1
def kyP (P : Pl) (t : Nat) : Int32 := nI (ksP P t)
def ltP (P : Pl) : Nat → Nat → Bool := rLt (kyP P)
def ahP (P : Pl) : Nat → Nat → Bool := ahR (kyP P)
def tvP (P : Pl) : Int32 → Nat → Int32 → Int32 := tvO (pLw P).length (pLw P) (nI (pSh P))
def kdP (P : Pl) (t : Nat) : Int32 := nI ((pI P).getD t itO).2.1
def skP (P : Pl) (x : Nat) : Int32 := nI ((pS P).getD x ([], 0)).2
def hmP (P : Pl) (t : Nat) : Nat := ((pI P).getD t itO).2.2.2.2
theorem tvP_pos (P : Pl) : ∀ al r g, 0 < tvP P al r g := tvO_pos _ _ _
theorem PlO.item {P : Pl} (h : PlO P) {t : Nat} (ht : t < pN P) : ((pI P).getD t itO).2.1 < 4 ∧ ((pI P).getD t itO).2.2.1 < 1000 ∧ 0 < ((pI P).getD t itO).2.2.2.1 ∧ ((pI P).getD t itO).2.2.2.1 < 100 ∧ ((pI P).getD t itO).2.2.2.2 < (pH P).length := by
  have hm : (pI P).getD t itO ∈ pI P := by
    rw [List.getD_eq_getElem?_getD, List.getElem?_eq_getElem ht]
    exact List.getElem_mem ht
  exact h.2.2.2.2.2.2.2.1 _ hm
theorem PlO.key {P : Pl} (h : PlO P) {t : Nat} (ht : t < pN P) : Okx 110 140 (ksP P t) := by
  obtain ⟨a1, a2, a3, a4, a5⟩ := h.item ht
  exact key_ok (by omega) (by omega) (by omega)
theorem agr_C {ks : Nat → Nat} {N : Nat} {k : Nat → UInt32} (hk : ∀ t, t < N → k t = UInt32.ofNat (ks t) ∧ Okx 110 140 (ks t)) : Agr N (kLt k) (rLt (fun t => nI (ks t))) ∧ Agr N (ahC k) (ahR (fun t => nI (ks t))) := by
  have a := KyOK.agr (h := (([], (fun _ t => nI (ks t)), (fun _ _ => 0), (fun _ => k), (fun _ _ => 0)) : pm_H)) (N := N) (ks := ks) (fun t ht => ⟨rfl, (hk t ht).1, (hk t ht).2⟩)
  exact a
theorem agr_R {ky ky' : Nat → Int32} {N : Nat} (hk : ∀ t, t < N → ky t = ky' t) : Agr N (rLt ky) (rLt ky') ∧ Agr N (ahR ky) (ahR ky') := by
  refine ⟨fun a b ha hb => ?_, fun a b ha hb => ?_⟩
  · unfold rLt; rw [hk a ha, hk b hb]
  · unfold ahR rLt; rw [hk a ha, hk b hb]
theorem PlC.agr {h : pm_H} {P : Pl} (hP : PlC h 3 P) (hO : PlO P) : Agr (pN P) (kLt (gf h 16)) (ltP P) ∧ Agr (pN P) (ahC (gf h 16)) (ahP P) := agr_C (ks := ksP P) (fun t ht => ⟨(hP.2.2.2.2.1 t ht).2.2, hO.key ht⟩)
def KyR (h : pm_H) (P : Pl) : Prop := ∀ t, t < pN P → gi h 460 t = kyP P t
theorem KyR.agr {h : pm_H} {P : Pl} (hK : KyR h P) : Agr (pN P) (rLt (gi h 460)) (ltP P) ∧ Agr (pN P) (ahR (gi h 460)) (ahP P) := agr_R hK
/-- all is well -/
def okSta (s : Sta) (w : Nat) : Prop := TxO (sT s) ∧ (PlG (sP s) ∧ PlB (sP s)) ∧ PlN (sP s) ∧ (lnsOK (pN (sP s)) (sW s) ∧ (sW s).length ≤ 30 ∧ ∀ q ∈ sW s, q.1 = 3 → q.2.2 < pSs (sP s)) ∧ okN (pN (sP s)) (sA s) w ∧ (∀ A ∈ sU s, okN (pN (sP s)) A w) ∧ (sU s).length ≤ 8 ∧ (snsOK (sS s) ∧ (sS s).length ≤ 8) ∧ ∀ m A sl, sM s m = some (A, sl) → okN (pN (sP s)) A w ∧ snsOK sl ∧ sl.length ≤ 8
theorem okSta.tx {s : Sta} {w : Nat} (h : okSta s w) : TxO (sT s) := h.1
theorem okSta.pl {s : Sta} {w : Nat} (h : okSta s w) : PlO (sP s) := h.2.1.1.1
theorem okSta.pb {s : Sta} {w : Nat} (h : okSta s w) : PlB (sP s) := h.2.1.2
theorem okSta.wk {s : Sta} {w : Nat} (h : okSta s w) : lnsOK (pN (sP s)) (sW s) ∧ (sW s).length ≤ 30 ∧ ∀ q ∈ sW s, q.1 = 3 → q.2.2 < pSs (sP s) := h.2.2.2.1
theorem okSta.a {s : Sta} {w : Nat} (h : okSta s w) : okN (pN (sP s)) (sA s) w := h.2.2.2.2.1
theorem okSta.u {s : Sta} {w : Nat} (h : okSta s w) : (∀ A ∈ sU s, okN (pN (sP s)) A w) ∧ (sU s).length ≤ 8 := ⟨h.2.2.2.2.2.1, h.2.2.2.2.2.2.1⟩
theorem okSta.s {s : Sta} {w : Nat} (h : okSta s w) : snsOK (sS s) ∧ (sS s).length ≤ 8 := h.2.2.2.2.2.2.2.1
theorem okSta.m {s : Sta} {w : Nat} (h : okSta s w) : ∀ m A sl, sM s m = some (A, sl) → okN (pN (sP s)) A w ∧ snsOK sl ∧ sl.length ≤ 8 := h.2.2.2.2.2.2.2.2
theorem okSta.mono {s : Sta} {w w' : Nat} (h : okSta s w) (hw : w ≤ w') : okSta s w' := ⟨h.1, h.2.1, h.2.2.1, h.2.2.2.1, h.a.mono hw, fun A hA => (h.u.1 A hA).mono hw, h.u.2, h.s, fun m A sl e => ⟨(h.m m A sl e).1.mono hw, (h.m m A sl e).2⟩⟩
theorem okSta.n3 {s : Sta} {w : Nat} (h : okSta s w) : pHn (sP s) ≤ 3 ∧ pSs (sP s) ≤ 2 ∧ pN (sP s) ≤ 20 := ⟨h.pl.2.2.2.1, h.pl.2.2.2.2.1, h.pl.2.2.2.2.2.1⟩
/-- as the class holds it -/
def PastC (M : Nat → Nat → Int32) (us : List AF) : Prop := ∃ nw, nw < 8 ∧ M 0 12 = nI nw ∧ M 0 13 = nI us.length ∧ ∀ i A, us[i]? = some A → CF M (136 + 31 * ((nw + 8 - i) % 8)) A
def MarkC (M : Nat → Nat → Int32) (mk : Nat → Option (AF × List Sn)) : Prop := ∀ m, m < 2 → (mk m = none → M 135 m = -1) ∧ ∀ A sl, mk m = some (A, sl) → M 135 m = nI sl.length ∧ CF M (384 + 31 * m) A ∧ ∀ k s, sl[k]? = some s → M 133 (8 * m + k) = nI (snN s)
def SeeC (M : Nat → Nat → Int32) (sl : List Sn) : Prop := M 0 9 = nI sl.length ∧ SnC M sl
def InvC (h : pm_H) (s : Sta) : Prop := La h ∧ TxC h (sT s) ∧ PlC h 3 (sP s) ∧ WkC (gi h) (sW s) ∧ CF (gi h) 59 (sA s) ∧ PastC (gi h) (sU s) ∧ SeeC (gi h) (sS s) ∧ gi h 0 10 = nI (sN s) ∧ MarkC (gi h) (sM s)
theorem InvC.la {h : pm_H} {s : Sta} (i : InvC h s) : La h := i.1
theorem InvC.tx {h : pm_H} {s : Sta} (i : InvC h s) : TxC h (sT s) := i.2.1
theorem InvC.pl {h : pm_H} {s : Sta} (i : InvC h s) : PlC h 3 (sP s) := i.2.2.1
theorem InvC.wk {h : pm_H} {s : Sta} (i : InvC h s) : WkC (gi h) (sW s) := i.2.2.2.1
theorem InvC.cf {h : pm_H} {s : Sta} (i : InvC h s) : CF (gi h) 59 (sA s) := i.2.2.2.2.1
theorem InvC.past {h : pm_H} {s : Sta} (i : InvC h s) : PastC (gi h) (sU s) := i.2.2.2.2.2.1
theorem InvC.see {h : pm_H} {s : Sta} (i : InvC h s) : SeeC (gi h) (sS s) := i.2.2.2.2.2.2.1
theorem InvC.shut {h : pm_H} {s : Sta} (i : InvC h s) : gi h 0 10 = nI (sN s) := i.2.2.2.2.2.2.2.1
theorem InvC.mark {h : pm_H} {s : Sta} (i : InvC h s) : MarkC (gi h) (sM s) := i.2.2.2.2.2.2.2.2
/-- as the reference holds it -/
def PastR (h : pm_H) (us : List AF) : Prop := gi h 446 18 = nI us.length ∧ ∀ i A, us[i]? = some A → RA (gi h 460) (gi h 458) (345 * (3 + (us.length - 1 - i))) A
def MarkR (h : pm_H) (mk : Nat → Option (AF × List Sn)) : Prop := ∀ m, m < 2 → (mk m = none → gi h 459 m = 0) ∧ ∀ A sl, mk m = some (A, sl) → gi h 459 m = 1 ∧ RA (gi h 460) (gi h 458) (345 * (1 + m)) A ∧ SnR (fun i => gi h 458 (345 * (1 + m) + i)) sl
def InvR (h : pm_H) (s : Sta) : Prop := La h ∧ WdR h ∧ (TxR h (sT s) ∧ gi h 446 2 = nI (sT s).length) ∧ PlR h 0 0 0 (sP s) ∧ KyR h (sP s) ∧ WkR (gi h 455) (sW s) ∧ RA (gi h 460) (gi h 458) 0 (sA s) ∧ PastR h (sU s) ∧ SnR (gi h 458) (sS s) ∧ gi h 446 19 = nI (sN s) ∧ MarkR h (sM s)
theorem InvR.la {h : pm_H} {s : Sta} (i : InvR h s) : La h := i.1
theorem InvR.wd {h : pm_H} {s : Sta} (i : InvR h s) : WdR h := i.2.1
theorem InvR.tx {h : pm_H} {s : Sta} (i : InvR h s) : TxR h (sT s) ∧ gi h 446 2 = nI (sT s).length := i.2.2.1
theorem InvR.pl {h : pm_H} {s : Sta} (i : InvR h s) : PlR h 0 0 0 (sP s) := i.2.2.2.1
theorem InvR.ky {h : pm_H} {s : Sta} (i : InvR h s) : KyR h (sP s) := i.2.2.2.2.1
theorem InvR.wk {h : pm_H} {s : Sta} (i : InvR h s) : WkR (gi h 455) (sW s) := i.2.2.2.2.2.1
theorem InvR.ra {h : pm_H} {s : Sta} (i : InvR h s) : RA (gi h 460) (gi h 458) 0 (sA s) := i.2.2.2.2.2.2.1
theorem InvR.past {h : pm_H} {s : Sta} (i : InvR h s) : PastR h (sU s) := i.2.2.2.2.2.2.2.1
theorem InvR.see {h : pm_H} {s : Sta} (i : InvR h s) : SnR (gi h 458) (sS s) := i.2.2.2.2.2.2.2.2.1
theorem InvR.shut {h : pm_H} {s : Sta} (i : InvR h s) : gi h 446 19 = nI (sN s) := i.2.2.2.2.2.2.2.2.2.1
theorem InvR.mark {h : pm_H} {s : Sta} (i : InvR h s) : MarkR h (sM s) := i.2.2.2.2.2.2.2.2.2.2
/-- what the class leaves alone of the reference; what the reference leaves alone of the class -/
def FrA (h h' : pm_H) : Prop := h'.1 = h.1 ∧ (∀ a, 446 ≤ a → gi h' a = gi h a) ∧ (∀ a, 446 ≤ a → gj h' a = gj h a) ∧ ∀ a k, ¬ (a = 1 ∧ k = 5) → gp h' a k = gp h a k
def FrB (h h' : pm_H) : Prop := h'.1 = h.1 ∧ (∀ a, a < 446 → gi h' a = gi h a) ∧ (∀ a, a < 446 → gj h' a = gj h a) ∧ gf h' = gf h ∧ gp h' = gp h
theorem FrA.rfl' {h : pm_H} : FrA h h := ⟨rfl, fun _ _ => rfl, fun _ _ => rfl, fun _ _ _ => rfl⟩
theorem FrA.trans {h h1 h2 : pm_H} (a : FrA h h1) (b : FrA h1 h2) : FrA h h2 := ⟨b.1.trans a.1, fun x hx => (b.2.1 x hx).trans (a.2.1 x hx), fun x hx => (b.2.2.1 x hx).trans (a.2.2.1 x hx), fun x k hx => (b.2.2.2 x k hx).trans (a.2.2.2 x k hx)⟩
theorem FrB.rfl' {h : pm_H} : FrB h h := ⟨rfl, fun _ _ => rfl, fun _ _ => rfl, rfl, rfl⟩
theorem FrB.trans {h h1 h2 : pm_H} (a : FrB h h1) (b : FrB h1 h2) : FrB h h2 := ⟨b.1.trans a.1, fun x hx => (b.2.1 x hx).trans (a.2.1 x hx), fun x hx => (b.2.2.1 x hx).trans (a.2.2.1 x hx), b.2.2.2.1.trans a.2.2.2.1, b.2.2.2.2.trans a.2.2.2.2⟩
theorem FrA.la {h h' : pm_H} (f : FrA h h') (hL : La h) : La h' := ⟨f.1.trans hL.1, fun a k hx => (f.2.2.2 a k hx).trans (hL.2 a k hx)⟩
theorem FrB.la {h h' : pm_H} (f : FrB h h') (hL : La h) : La h' := ⟨f.1.trans hL.1, fun a k hx => by rw [f.2.2.2.2]; exact hL.2 a k hx⟩
theorem WkC.of {M M' : Nat → Nat → Int32} {l : List Ln} (h : WkC M l) (e : ∀ a, a = 41 ∨ a = 43 ∨ a = 45 ∨ a = 47 → M' a = M a) : WkC M' l := by
  refine ⟨(congrFun (e 41 (by omega)) 3).trans h.1, fun i q hq => ?_⟩
  obtain ⟨a, b, c⟩ := h.2 i q hq
  exact ⟨(congrFun (e 43 (by omega)) i).trans a, (congrFun (e 45 (by omega)) i).trans b, fun z => (congrFun (e 47 (by omega)) i).trans (c z)⟩
theorem past_lt (nw i : Nat) : 136 + 31 * ((nw + 8 - i) % 8) ≤ 353 := by omega
theorem PastC.of {M M' : Nat → Nat → Int32} {us : List AF} (h : PastC M us) (e0 : M' 0 12 = M 0 12) (e1 : M' 0 13 = M 0 13) (e : ∀ a, 136 ≤ a → a < 384 → M' a = M a) : PastC M' us := by
  obtain ⟨nw, h1, h2, h3, h4⟩ := h
  refine ⟨nw, h1, e0.trans h2, e1.trans h3, fun i A hA => (h4 i A hA).keep fun q hq => e _ ?_ ?_⟩ <;> omega
theorem MarkC.of {M M' : Nat → Nat → Int32} {mk : Nat → Option (AF × List Sn)} (h : MarkC M mk) (e : ∀ a, a = 133 ∨ a = 135 ∨ (384 ≤ a ∧ a < 446) → M' a = M a) : MarkC M' mk := by
  intro m hm
  obtain ⟨h1, h2⟩ := h m hm
  refine ⟨fun z => (congrFun (e 135 (by omega)) m).trans (h1 z), fun A sl z => ?_⟩
  obtain ⟨a, b, c⟩ := h2 A sl z
  exact ⟨(congrFun (e 135 (by omega)) m).trans a, b.keep fun q hq => e _ (by omega), fun k s hk => (congrFun (e 133 (by omega)) _).trans (c k s hk)⟩
theorem SeeC.of {M M' : Nat → Nat → Int32} {sl : List Sn} (h : SeeC M sl) (e0 : M' 0 9 = M 0 9) (e : M' 129 = M 129) : SeeC M' sl := ⟨e0.trans h.1, fun k s hk => (congrFun e k).trans (h.2 k s hk)⟩
theorem TxC.of {h h' : pm_H} {tx : List Nat} (hT : TxC h tx) (e1 : gi h' 1 1 = gi h 1 1) (e2 : gi h' 2 = gi h 2) : TxC h' tx := ⟨e1.trans hT.1, fun j hj => (congrFun e2 j).trans (hT.2 j hj)⟩
theorem InvC.keep {h h' : pm_H} {s : Sta} (i : InvC h s) (f : FrB h h') : InvC h' s := by
  obtain ⟨i1, i2, i3, i4, i5, i6, i7, i8, i9⟩ := i
  exact ⟨f.la i1, i2.of (congrFun (f.2.1 1 (by decide)) 1) (f.2.1 2 (by decide)), i3.of (fun a _ _ => f.2.1 a (by omega)) (fun a _ _ => f.2.2.1 a (by omega)) (fun a _ _ => congrFun f.2.2.2.1 a), i4.of (fun a _ => f.2.1 a (by omega)), i5.keep (fun q _ => f.2.1 _ (by omega)), i6.of (congrFun (f.2.1 0 (by decide)) 12) (congrFun (f.2.1 0 (by decide)) 13) (fun a _ _ => f.2.1 a (by omega)), i7.of (congrFun (f.2.1 0 (by decide)) 9) (f.2.1 129 (by decide)), (congrFun (f.2.1 0 (by decide)) 10).trans i8, i9.of (fun a _ => f.2.1 a (by omega))⟩
/-- what comes of a change in the rows of whole numbers alone -/
theorem InvC.ty {h : pm_H} {s : Sta} {M' : Nat → Nat → Int32} (i : InvC h s) (f : TY (gi h) M') : InvC (sm h M') s := by
  obtain ⟨i1, i2, i3, i4, i5, i6, i7, i8, i9⟩ := i
  have e : ∀ a, (a < 90 ∨ 128 ≤ a) → a ≠ 21 → gi (sm h M') a = gi h a := f
  exact ⟨i1, i2.of (congrFun (e 1 (by decide) (by decide)) 1) (e 2 (by decide) (by decide)), i3.of (fun a _ _ => e a (by omega) (by omega)) (fun a _ _ => rfl) (fun a _ _ => rfl), i4.of (fun a _ => e a (by omega) (by omega)), i5.keep (fun q _ => e _ (by omega) (by omega)), i6.of (congrFun (e 0 (by decide) (by decide)) 12) (congrFun (e 0 (by decide) (by decide)) 13) (fun a _ _ => e a (by omega) (by omega)), i7.of (congrFun (e 0 (by decide) (by decide)) 9) (e 129 (by decide) (by decide)), (congrFun (e 0 (by decide) (by decide)) 10).trans i8, i9.of (fun a _ => e a (by omega) (by omega))⟩
theorem FrA.ty {h : pm_H} {M' : Nat → Nat → Int32} (f : TY (gi h) M') : FrA h (sm h M') := ⟨rfl, fun a ha => f a (by omega) (by omega), fun _ _ => rfl, fun _ _ _ => rfl⟩
theorem InvC.setA {h : pm_H} {s : Sta} {M' : Nat → Nat → Int32} {A' : AF} (i : InvC h s) (f : FX (gi h) M' 59) (hC : CF M' 59 A') : InvC (sm h M') (s.1, s.2.1, s.2.2.1, A', s.2.2.2.2) := by
  obtain ⟨i1, i2, i3, i4, i5, i6, i7, i8, i9⟩ := i
  have e : ∀ a, (a < 61 ∨ 90 ≤ a) → a ≠ 21 → gi (sm h M') a = gi h a := fun a ha hb => f a (fun q hq => by omega) hb
  exact ⟨i1, i2.of (congrFun (e 1 (by decide) (by decide)) 1) (e 2 (by decide) (by decide)), i3.of (fun a _ _ => e a (by omega) (by omega)) (fun a _ _ => rfl) (fun a _ _ => rfl), i4.of (fun a _ => e a (by omega) (by omega)), hC, i6.of (congrFun (e 0 (by decide) (by decide)) 12) (congrFun (e 0 (by decide) (by decide)) 13) (fun a _ _ => e a (by omega) (by omega)), i7.of (congrFun (e 0 (by decide) (by decide)) 9) (e 129 (by decide) (by decide)), (congrFun (e 0 (by decide) (by decide)) 10).trans i8, i9.of (fun a _ => e a (by omega) (by omega))⟩
theorem FrA.fx {h : pm_H} {M' : Nat → Nat → Int32} {f : Nat} (hf : f ∈ FLs) (x : FX (gi h) M' f) : FrA h (sm h M') := ⟨rfl, fun a ha => x a (fun q hq => by have := FLs_30 hf; omega) (by omega), fun _ _ => rfl, fun _ _ _ => rfl⟩
theorem FrA.si {h : pm_H} {a k : Nat} {v : Int32} (ha : a < 446) : FrA h (si h a k v) := ⟨rfl, fun b hb => pm_u_ne _ _ _ (by omega), fun _ _ => rfl, fun _ _ _ => rfl⟩
/-- a field of the object's own -/
theorem si_00 {h : pm_H} {k j : Nat} {v : Int32} : gi (si h 0 k v) 0 j = if j = k then v else gi h 0 j := by
  show pm_u (gi h) 0 k v 0 j = _
  rw [pm_u_at]; rfl
theorem si_0n {h : pm_H} {k a : Nat} {v : Int32} (ha : a ≠ 0) : gi (si h 0 k v) a = gi h a := pm_u_ne _ _ _ ha
theorem InvC.setN {h : pm_H} {s : Sta} {n : Nat} (i : InvC h s) : InvC (si h 0 10 (nI n)) (s.1, s.2.1, s.2.2.1, s.2.2.2.1, s.2.2.2.2.1, s.2.2.2.2.2.1, n, s.2.2.2.2.2.2.2) := by
  obtain ⟨i1, i2, i3, i4, i5, i6, i7, i8, i9⟩ := i
  exact ⟨i1, i2.of (congrFun (si_0n (by decide)) 1) (si_0n (by decide)), i3.of (fun a _ _ => si_0n (by omega)) (fun a _ _ => rfl) (fun a _ _ => rfl), i4.of (fun a _ => si_0n (by omega)), i5.keep (fun q _ => si_0n (by omega)), i6.of (by rw [si_00]; rfl) (by rw [si_00]; rfl) (fun a _ _ => si_0n (by omega)), i7.of (by rw [si_00]; rfl) (si_0n (by decide)), by rw [si_00]; rfl, i9.of (fun a _ => si_0n (by omega))⟩
theorem InvR.keep {h h' : pm_H} {s : Sta} (i : InvR h s) (f : FrA h h') : InvR h' s := by
  obtain ⟨i1, i2, ⟨i3, i4⟩, i5, i6, i7, i8, i9, i10, i11, i12⟩ := i
  have e : ∀ a, 446 ≤ a → gi h' a = gi h a := f.2.1
  refine ⟨f.la i1, fun w hw => (congrFun (f.2.2.1 451 (by decide)) w).trans (i2 w hw), ⟨fun j hj => (congrFun (e 447 (by decide)) j).trans (i3 j hj), (congrFun (e 446 (by decide)) 2).trans i4⟩, i5.same (e 452 (by decide)) (e 453 (by decide)) (f.2.2.1 454 (by decide)), fun t ht => (congrFun (e 460 (by decide)) t).trans (i6 t ht), by rw [e 455 (by decide)]; exact i7, by rw [e 460 (by decide), e 458 (by decide)]; exact i8, ⟨(congrFun (e 446 (by decide)) 18).trans i9.1, by rw [e 460 (by decide), e 458 (by decide)]; exact i9.2⟩, by rw [e 458 (by decide)]; exact i10, (congrFun (e 446 (by decide)) 19).trans i11, ?_⟩
  intro m hm
  rw [e 460 (by decide), e 458 (by decide), e 459 (by decide)]
  exact i12 m hm
