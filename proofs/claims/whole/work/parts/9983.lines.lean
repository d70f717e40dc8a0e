/-! THE READER: the lines of a QUEUE -/
def semi (b : PS) : Nat := if tS 59 (hdT b.2) = true then 0 else 1
def sm1 (b : PS) : PS := stp (semi b) b
def aFull (n m : Nat) (s : PS) : PS := stp (if m ≤ n then 5 else 0) s
def bName (P : Pl) (a : PS) : PS := stp (newK (toldP P (hdT a.2)) (hdT a.2)) a
def cKind (b : PS) : PS := stp (if kdT (hdT b.2) = none then 1 else 0) b
def nNum (lo hi : Nat) (c : PS) : PS := stp (numK lo hi (hdT c.2)) c
def wWrd (i : Nat) (e : PS) : PS := stp (if tW i (hdT e.2) = true then 0 else 1) e
def oOld (ns : List (List Nat)) (but : Option Nat) (i : PS) : PS := stp (oldK ns but (hdT i.2)) i
def plH (P : Pl) (nm : List Nat) : Pl := (pH P ++ [nm], P.2)
def plS (P : Pl) (nm : List Nat) (k : Nat) : Pl := (pH P, pS P ++ [(nm, k)], P.2.2)
def plI (P : Pl) (x : It) : Pl := (pH P, pS P, pI P ++ [x], P.2.2.2)
def plW (P : Pl) (v : Nat) : Pl := (pH P, pS P, pI P, v, pLw P, true, pFg P)
def plG (P : Pl) (o : List Op) : Pl := (pH P, pS P, pI P, pSh P, o, pFs P, true)
def lineH (s : PS) (P : Pl) : PS × Pl := (sm1 (bName P (aFull (pH P).length 3 s)), plH P (hdT (aFull (pH P).length 3 s).2).2.2)
def lineS (s : PS) (P : Pl) : PS × Pl := (sm1 (cKind (bName P (aFull (pS P).length 2 s))), plS P (hdT (aFull (pS P).length 2 s).2).2.2 ((kdT (hdT (bName P (aFull (pS P).length 2 s)).2)).getD 0))
def iA (s : PS) (P : Pl) : PS := aFull (pI P).length 20 s
def iB (s : PS) (P : Pl) : PS := bName P (iA s P)
def iC (s : PS) (P : Pl) : PS := cKind (iB s P)
def iD (s : PS) (P : Pl) : PS := nNum 0 999 (iC s P)
def iE (s : PS) (P : Pl) : PS := wWrd 4 (iD s P)
def iF (s : PS) (P : Pl) : PS := nNum 1 99 (iE s P)
def iG (s : PS) (P : Pl) : PS := wWrd 5 (iF s P)
def iH (s : PS) (P : Pl) : PS := oOld (pH P) none (iG s P)
def iIt (s : PS) (P : Pl) : It := ((hdT (iA s P).2).2.2, (kdT (hdT (iB s P).2)).getD 0, nmv (hdT (iC s P).2).2.2, nmv (hdT (iE s P).2).2.2, (idN (pH P) (hdT (iG s P).2)).getD 0)
def lineI (s : PS) (P : Pl) : PS × Pl := (sm1 (iH s P), plI P (iIt s P))
def shA (s : PS) (P : Pl) : PS := stp (if pFs P = true then 3 else 0) s
def lineW (s : PS) (P : Pl) : PS × Pl := (sm1 (nNum 0 6 (shA s P)), plW P (nmv (hdT (shA s P).2).2.2))
def gwA (s : PS) (P : Pl) : PS := stp (if pFg P = true then 3 else 0) s
def lineG (s : PS) (P : Pl) : PS × Pl := (sm1 (alo (prt 5) (gwA s P)).1, plG P (alo (prt 5) (gwA s P)).2)
def lineQ (s : PS) (P : Pl) : PS × Pl := if tW 1 (hdT s.2) = true then lineH s P else if tW 2 (hdT s.2) = true then lineS s P else if tW 3 (hdT s.2) = true then lineI s P else if tW 6 (hdT s.2) = true then lineW s P else if tW 7 (hdT s.2) = true then lineG s P else (wrg 1 s, P)
theorem stp_0 {k : Nat} {s : PS} (h : (stp k s).1 = 0) : k = 0 ∧ s.1 = 0 ∧ stp k s = (0, s.2.tail) := by
  unfold stp at h ⊢
  by_cases c : s.1 = 0
  · rw [if_pos c] at h ⊢
    by_cases c2 : k = 0
    · rw [if_pos c2]; exact ⟨c2, c, rfl⟩
    · rw [if_neg c2] at h; exact absurd h c2
  · rw [if_neg c] at h; exact absurd h c
theorem newK_0 {b : Bool} {t : Tk} (h : newK b t = 0) : nameT t = true ∧ b = false := by
  unfold newK at h
  cases hn : nameT t with
  | false => rw [hn, if_pos rfl] at h; cases h
  | true =>
    rw [hn, if_neg (by decide)] at h
    cases b with
    | false => exact ⟨rfl, rfl⟩
    | true => rw [if_pos rfl] at h; cases h
theorem kind_0 {t : Tk} (h : (if kdT t = none then 1 else 0) = 0) : ∃ k, kdT t = some k ∧ k < 4 := by
  cases hk : kdT t with
  | none => rw [hk, if_pos rfl] at h; cases h
  | some k =>
    refine ⟨k, rfl, ?_⟩
    unfold kdT at hk
    split at hk
    · cases hk; decide
    · split at hk
      · cases hk; decide
      · split at hk
        · cases hk; decide
        · split at hk
          · cases hk; decide
          · cases hk
theorem num_0 {lo hi : Nat} {t : Tk} (h : numK lo hi t = 0) : tN t = true ∧ lo ≤ nmv t.2.2 ∧ nmv t.2.2 ≤ hi := by
  unfold numK at h
  cases hn : tN t with
  | false => rw [hn, if_pos rfl] at h; cases h
  | true =>
    rw [hn, if_neg (by decide)] at h
    by_cases c : nmv t.2.2 < lo ∨ hi < nmv t.2.2
    · rw [if_pos c] at h; cases h
    · exact ⟨rfl, by omega, by omega⟩
theorem old_0 {ns : List (List Nat)} {but : Option Nat} {t : Tk} (h : oldK ns but t = 0) : nameT t = true ∧ (∃ i, idN ns t = some i ∧ i < ns.length) ∧ idN ns t ≠ but := by
  unfold oldK at h
  cases hn : nameT t with
  | false => rw [hn, if_pos rfl] at h; cases h
  | true =>
    rw [hn, if_neg (by decide)] at h
    cases hi : idN ns t with
    | none => rw [hi, if_pos rfl] at h; cases h
    | some i =>
      rw [hi, if_neg (by intro q; cases q)] at h
      refine ⟨rfl, ⟨i, rfl, idN_lt hi⟩, fun q => ?_⟩
      rw [if_pos q] at h; cases h
def drS (a : Nat) : Prop := a = 1 ∨ (22 ≤ a ∧ a ≤ 38) ∨ a = 55 ∨ a = 56 ∨ a = 58
theorem FrD.dr {h h' : pm_H} (f : FrD h h') : FrS drS h h' := f.1.mono (fun a q => by unfold rdS at q; unfold drS; omega)
theorem FrS.sl {S : Nat → Prop} {h : pm_H} {a k : Nat} {v : Int64} (ha : S a) : FrS S h (sl h a k v) := ⟨rfl, fun _ _ => rfl, rfl, fun b hb => pm_u_ne _ _ _ (fun q => hb (q ▸ ha)), fun _ _ => rfl, fun _ _ _ => rfl⟩
theorem FrS.sf {S : Nat → Prop} {h : pm_H} {a k : Nat} {v : UInt32} (ha : S a) : FrS S h (sf h a k v) := ⟨rfl, fun _ _ => rfl, rfl, fun _ _ => rfl, fun b hb => pm_u_ne _ _ _ (fun q => hb (q ▸ ha)), fun _ _ _ => rfl⟩
theorem NmC.of {h h' : pm_H} {o : Nat} {ns : List (List Nat)} (hN : NmC h o ns) (e1 : gi h' o = gi h o) (e2 : gj h' (o + 1) = gj h (o + 1)) : NmC h' o ns := ⟨(congrFun e1 1).trans hN.1, fun i hi => (congrFun e2 i).trans (hN.2 i hi)⟩
theorem PlC.of {h h' : pm_H} {b : Nat} {P : Pl} (hP : PlC h b P) (e1 : ∀ a, b ≤ a → a ≤ b + 16 → gi h' a = gi h a) (e2 : ∀ a, b ≤ a → a ≤ b + 16 → gj h' a = gj h a) (e3 : ∀ a, b ≤ a → a ≤ b + 16 → gf h' a = gf h a) : PlC h' b P := by
  obtain ⟨p1, p2, p3, p4, p5, p6, p7, p8⟩ := hP
  refine ⟨p1.of (e1 _ (by omega) (by omega)) (e2 _ (by omega) (by omega)), p2.of (e1 _ (by omega) (by omega)) (e2 _ (by omega) (by omega)), p3.of (e1 _ (by omega) (by omega)) (e2 _ (by omega) (by omega)), fun i hi => (congrFun (e1 _ (by omega) (by omega)) i).trans (p4 i hi), fun i hi => ?_, (congrFun (e1 _ (by omega) (by omega)) 1).trans p6, ?_, (congrFun (e1 _ (by omega) (by omega)) 8).trans p8⟩
  · obtain ⟨q1, q2, q3⟩ := p5 i hi
    exact ⟨(congrFun (e1 _ (by omega) (by omega)) i).trans q1, (congrFun (e1 _ (by omega) (by omega)) i).trans q2, (congrFun (e3 _ (by omega) (by omega)) i).trans q3⟩
  · rw [e1 (b + 16) (by omega) (by omega)]; exact p7
theorem FrD.pl {h h' : pm_H} {P : Pl} (f : FrD h h') (hP : PlC h 22 P) : PlC h' 22 P := hP.of (fun a h1 h2 => f.1.2.1 a (by unfold rdS; omega)) (fun a h1 h2 => f.1.2.2.2.1 a (by unfold rdS; omega)) (fun a h1 h2 => f.1.2.2.2.2.1 a (by unfold rdS; omega))
theorem FrD.plf {h h' : pm_H} {P : Pl} (f : FrD h h') (hP : PlF h P) : PlF h' P := ⟨f.2.1.trans hP.1, f.2.2.trans hP.2⟩
theorem getD_snoc {α : Type} {l : List α} {x e : α} {i : Nat} : (l ++ [x]).getD i e = if i < l.length then l.getD i e else if i = l.length then x else e := by
  by_cases c : i < l.length
  · rw [if_pos c, List.getD_eq_getElem?_getD, List.getElem?_append_left c, ← List.getD_eq_getElem?_getD]
  · rw [if_neg c]
    by_cases c2 : i = l.length
    · rw [if_pos c2, c2, List.getD_eq_getElem?_getD, List.getElem?_append_right (Nat.le_refl _), Nat.sub_self]; rfl
    · rw [if_neg c2, List.getD_eq_getElem?_getD, List.getElem?_eq_none (by simp; omega)]; rfl
section LNS
variable {G : pm_G} {d : Nat} {h : pm_H} {tx : List Nat} {s : PS} {P : Pl}
theorem s_nadd {o n m : Nat} {V : Int64} {Q : pm_H → Prop} (h1 : h.1[o]? = some (0, 3)) (h2 : gp h o 0 = o + 1) (h3 : h.1[o + 1]? = some (2, m)) (hn : gi h o 1 = nI n) (hm : n < m) (hm2 : m < 1000) (w : Q (si (sl h (o + 1) n V) o 1 (nI (n + 1)))) : cv G (d + 1) m_X3_add [.ref o, .long V] h Q := by
  refine cv_wp rfl (Nat.le_of_ble_eq_true rfl) rfl (x_X3_add ⟨h1, ?_⟩)
  rw [hn, if_neg (nI_pos (by omega)), h2]
  refine ⟨m, h3, ?_⟩
  rw [if_neg (show ¬ Int32.ofNat m ≤ nI n from nI_nlen hm (by omega)), cl_nI (show n < 2 ^ 31 by omega)]
  refine ⟨vp_nI hm (by omega), ?_⟩
  rintro _ rfl _ rfl
  rw [show gi (sl h (o + 1) n V) o 1 = nI n from hn, nI_1]
  exact ⟨rfl, w⟩
theorem NmC.add {o : Nat} {ns : List (List Nat)} {nm : List Nat} {n : Nat} (hN : NmC h o ns) (hn : ns.length = n) : NmC (si (sl h (o + 1) n (lN (e32 nm))) o 1 (nI (n + 1))) o (ns ++ [nm]) := by
  refine ⟨?_, fun i hi => ?_⟩
  · show pm_u (gi h) o 1 (nI (n + 1)) o 1 = _
    rw [pm_u_at, List.length_append, List.length_singleton, hn]
    exact if_pos rfl
  · rw [List.length_append, List.length_singleton] at hi
    show pm_u (gj h) (o + 1) n (lN (e32 nm)) (o + 1) i = _
    rw [pm_u_at, getD_snoc]
    unfold pm_ui
    by_cases c : i < ns.length
    · rw [if_neg (by omega), if_pos c]; exact hN.2 i c
    · rw [if_pos (by omega), if_neg c, if_pos (by omega)]
theorem pl_lens (P : Pl) : (pSn P).length = (pS P).length ∧ (pIn P).length = (pI P).length := ⟨List.length_map _, List.length_map _⟩
theorem s_readHeap {Q : pm_H → Prop} (hL : La h) (hC : CS h tx s) (hP : PlC h 22 P) (hF : PlF h P) (hO : PlO P) (h0 : (hdT s.2).2.1 ≠ 0)
    (w : ∀ h', FrS drS h h' → CS h' tx (lineH s P).1 → ((lineH s P).1.1 = 0 → PlC h' 22 (lineH s P).2 ∧ PlF h' (lineH s P).2) → Q h') : cv G (d + 6) m_X5_readHeap [.ref 55, .ref 22] h Q := by
  obtain ⟨l1, l2, l3, l4, ⟨n1, n2, n3⟩, -⟩ := hL.pl
  obtain ⟨r1, r2, r3⟩ := hL.rdr
  have lH := hO.2.2.2.1
  have tail : ∀ A, A = aFull (pH P).length 3 s → ∀ hX, FrD h hX → CS hX tx A → (
      (hX.1[55]? = some (0, 5)) ∧
      cl G (d + 5) m_X5_newName [.ref 55, .ref 22] hX fun r3 h4 =>
      (h4.1[55]? = some (0, 5)) ∧
      cv G (d + 5) m_X5_expectEnd [.ref 55] h4 fun h6 =>
      (h6.1[55]? = some (0, 5)) ∧
      if (gi h6 55 2) = 0 then (
        (h6.1[22]? = some (0, 4)) ∧
        (h6.1[gp h6 22 0]? = some (0, 3)) ∧
        cv G (d + 5) m_X3_add [.ref (gp h6 22 0), .long r3] h6 fun h8 =>
        ((none : Option Value) = none ∧ Q h8)
      ) else (
        ((none : Option Value) = none ∧ Q h6)
      )) := by
    intro A eA hX fX cX
    unfold lineH at w
    rw [← eA] at w
    have hLX := fX.la hL
    refine ⟨hLX.rdr.1, s_newName (d := d) hLX cX (fX.pl hP) hO (fun h4 V f4 c4 v4 => ?_)⟩
    have hL4 := f4.la hLX
    refine ⟨hL4.rdr.1, s_expectEnd (d := d) hL4 c4 (fun h6 f6 c6 => ?_)⟩
    have hL6 := f6.la hL4
    have f06 := fX.trans (f4.trans f6)
    have c6 : CS h6 tx (sm1 (bName P A)) := c6
    refine ⟨hL6.rdr.1, ?_⟩
    by_cases z : (sm1 (bName P A)).1 = 0
    · rw [if_pos (c6.f0.mpr z)]
      obtain ⟨z1, z2, -⟩ := stp_0 z
      obtain ⟨z3, z4, -⟩ := stp_0 z2
      obtain ⟨z5, z6⟩ := newK_0 z3
      have v := v4 z5
      subst v
      have p6 := f06.pl hP
      have nf : (pH P).length < 3 := by
        rw [eA] at z4
        obtain ⟨y, -, -⟩ := stp_0 z4
        by_cases c : 3 ≤ (pH P).length
        · rw [if_pos c] at y; cases y
        · omega
      obtain ⟨m1, m2, m3, m4, ⟨k1, k2, k3⟩, -⟩ := hL6.pl
      refine ⟨m1, ?_⟩
      rw [m2]
      refine ⟨k1, s_nadd (d := d + 4) k1 k2 k3 p6.1.1 nf (by decide) ⟨rfl, ?_⟩⟩
      have fr : FrS drS h6 (si (sl h6 (23 + 1) (pH P).length (lN (e32 (hdT A.2).2.2))) 23 1 (nI ((pH P).length + 1))) := (FrS.sl (by unfold drS; omega)).trans (FrS.wi (by unfold drS; omega) (by decide))
      obtain ⟨q1, q2, q3, q4, q5, q6, q7, q8⟩ := p6
      have ei : ∀ a, a ≠ 23 → gi (si (sl h6 (23 + 1) (pH P).length (lN (e32 (hdT A.2).2.2))) 23 1 (nI ((pH P).length + 1))) a = gi h6 a := fun a ha => pm_u_ne _ _ _ ha
      have ej : ∀ a, a ≠ 24 → gj (si (sl h6 (23 + 1) (pH P).length (lN (e32 (hdT A.2).2.2))) 23 1 (nI ((pH P).length + 1))) a = gj h6 a := fun a ha => pm_u_ne _ _ _ ha
      obtain ⟨c61, c62, c63, c64, c65, c66⟩ := c6
      refine w _ (f06.dr.trans fr) ⟨c61, fr.tx (by unfold drS; omega) c62, (congrFun (ei 55 (by decide)) 2).trans c63, c64.keep (ei 1 (by decide)) rfl (ej 1 (by decide)), c65, c66⟩ (fun _ => ⟨⟨q1.add rfl, q2.of (ei _ (by decide)) (ej _ (by decide)), q3.of (ei _ (by decide)) (ej _ (by decide)), ?_, ?_, ?_, ?_, ?_⟩, ?_⟩)
      · exact fun i hi => (congrFun (ei 30 (by decide)) i).trans (q4 i hi)
      · exact fun i hi => ⟨(congrFun (ei 32 (by decide)) i).trans (q5 i hi).1, (congrFun (ei 34 (by decide)) i).trans (q5 i hi).2.1, (q5 i hi).2.2⟩
      · exact (congrFun (ei 36 (by decide)) 1).trans q6
      · rw [ei (22 + 16) (by decide)]; exact q7
      · exact (congrFun (ei 22 (by decide)) 8).trans q8
      · have pf := f06.plf hF
        exact ⟨(congrFun (ei 55 (by decide)) 3).trans pf.1, (congrFun (ei 55 (by decide)) 4).trans pf.2⟩
    · rw [if_neg (fun q => z (c6.f0.mp q))]
      exact ⟨rfl, w h6 f06.dr c6 (fun q => absurd q z)⟩
  refine cv_wp rfl (Nat.le_of_ble_eq_true rfl) rfl (x_X5_readHeap ⟨l1, ?_⟩)
  rw [l2, hP.1.1]
  refine ⟨n1, ?_⟩
  by_cases c : (pH P).length < 3
  · rw [if_pos (show nI (pH P).length < 3 from (nI_ltI (b := 3) (by omega) (by decide)).mpr c)]
    exact ⟨r1, s_rbegin (d := d) (k := 0) hL hC (by decide) (fun _ _ => h0) (tail _ (by unfold aFull; rw [if_neg (by omega)]))⟩
  · rw [if_neg (show ¬ nI (pH P).length < 3 from fun q => c ((nI_ltI (b := 3) (by omega) (by decide)).mp q))]
    exact ⟨r1, s_rbegin (d := d) (k := 5) hL hC (by decide) (fun q => by cases q) (tail _ (by unfold aFull; rw [if_pos (by omega)]))⟩
theorem s_addShelf {V : Int64} {kd n : Nat} {Q : pm_H → Prop} (hL : La h) (hn : gi h 25 1 = nI n) (hm : n < 2) (w : Q (si (sl (si h 30 n (nI kd)) 26 n V) 25 1 (nI (n + 1)))) : cv G (d + 2) m_X4_addShelf [.ref 22, .long V, .int (nI kd)] h Q := by
  obtain ⟨m1, m2, m3, m4, -, ⟨k1, k2, k3⟩, -⟩ := hL.pl
  have g3 : gp h 22 3 = 29 := hL.p (by decide +kernel) (by omega)
  have ro : Ro h 29 30 2 := hL.ro (by decide +kernel) (by decide +kernel) (by decide +kernel) (by decide)
  refine cv_wp rfl (Nat.le_of_ble_eq_true rfl) rfl (x_X4_addShelf ⟨m1, ?_⟩)
  rw [m3, g3, hn]
  refine ⟨k1, ro.1, row_set ro ?_⟩
  rw [wr_in hm (by decide)]
  refine ⟨m1, ?_⟩
  have e : gi (sm h (pm_u (gi h) 30 n (nI kd))) 25 1 = nI n := (congrFun (pm_u_ne (gi h) n (nI kd) (show 25 ≠ 30 by decide)) 1).trans hn
  rw [show gp (sm h (pm_u (gi h) 30 n (nI kd))) 22 1 = 25 from m3]
  exact ⟨k1, s_nadd (d := d) (h := sm h (pm_u (gi h) 30 n (nI kd))) k1 k2 k3 e hm (by decide) ⟨rfl, w⟩⟩
theorem s_readShelf {Q : pm_H → Prop} (hL : La h) (hC : CS h tx s) (hP : PlC h 22 P) (hF : PlF h P) (hO : PlO P) (h0 : (hdT s.2).2.1 ≠ 0)
    (w : ∀ h', FrS drS h h' → CS h' tx (lineS s P).1 → ((lineS s P).1.1 = 0 → PlC h' 22 (lineS s P).2 ∧ PlF h' (lineS s P).2) → Q h') : cv G (d + 6) m_X5_readShelf [.ref 55, .ref 22] h Q := by
  obtain ⟨l1, l2, l3, l4, -, ⟨n1, n2, n3⟩, -⟩ := hL.pl
  obtain ⟨r1, r2, r3⟩ := hL.rdr
  have lS := hO.2.2.2.2.1
  have ls := (pl_lens P).1
  have tail : ∀ A, A = aFull (pS P).length 2 s → ∀ hX, FrD h hX → CS hX tx A → (
      (hX.1[55]? = some (0, 5)) ∧
      cl G (d + 5) m_X5_newName [.ref 55, .ref 22] hX fun r3 h4 =>
      (h4.1[55]? = some (0, 5)) ∧
      ci G (d + 5) m_X5_toldKind [.ref 55] h4 fun r5 h6 =>
      (h6.1[55]? = some (0, 5)) ∧
      cv G (d + 5) m_X5_expectEnd [.ref 55] h6 fun h8 =>
      (h8.1[55]? = some (0, 5)) ∧
      if (gi h8 55 2) = 0 then (
        (h8.1[22]? = some (0, 4)) ∧
        cv G (d + 5) m_X4_addShelf [.ref 22, .long r3, .int r5] h8 fun h10 =>
        ((none : Option Value) = none ∧ Q h10)
      ) else (
        ((none : Option Value) = none ∧ Q h8)
      )) := by
    intro A eA hX fX cX
    unfold lineS at w
    rw [← eA] at w
    have hLX := fX.la hL
    refine ⟨hLX.rdr.1, s_newName (d := d) hLX cX (fX.pl hP) hO (fun h4 V f4 c4 v4 => ?_)⟩
    have hL4 := f4.la hLX
    have c4 : CS h4 tx (bName P A) := c4
    refine ⟨hL4.rdr.1, s_toldKind (d := d) hL4 c4 (fun h5 f5 c5 => ?_)⟩
    have hL5 := f5.la hL4
    refine ⟨hL5.rdr.1, s_expectEnd (d := d) hL5 c5 (fun h6 f6 c6 => ?_)⟩
    have hL6 := f6.la hL5
    have f06 := fX.trans (f4.trans (f5.trans f6))
    have c6 : CS h6 tx (sm1 (cKind (bName P A))) := c6
    refine ⟨hL6.rdr.1, ?_⟩
    by_cases z : (sm1 (cKind (bName P A))).1 = 0
    · rw [if_pos (c6.f0.mpr z)]
      obtain ⟨z1, z2, -⟩ := stp_0 z
      obtain ⟨y1, y2, -⟩ := stp_0 z2
      obtain ⟨z3, z4, -⟩ := stp_0 y2
      obtain ⟨z5, z6⟩ := newK_0 z3
      obtain ⟨kd, kd1, kd2⟩ := kind_0 y1
      have v := v4 z5
      subst v
      have p6 := f06.pl hP
      have nf : (pS P).length < 2 := by
        rw [eA] at z4
        obtain ⟨y, -, -⟩ := stp_0 z4
        by_cases c : 2 ≤ (pS P).length
        · rw [if_pos c] at y; cases y
        · omega
      rw [kd1] at w ⊢
      have e25 : gi h6 25 1 = nI (pS P).length := by rw [← ls]; exact p6.2.1.1
      refine ⟨hL6.pl.1, s_addShelf (d := d + 3) (kd := kd) hL6 e25 nf ⟨rfl, ?_⟩⟩
      have fr : FrS drS h6 (si (sl (si h6 30 (pS P).length (nI kd)) 26 (pS P).length (lN (e32 (hdT A.2).2.2))) 25 1 (nI ((pS P).length + 1))) := (FrS.wi (by unfold drS; omega) (by decide)).trans ((FrS.sl (by unfold drS; omega)).trans (FrS.wi (by unfold drS; omega) (by decide)))
      obtain ⟨q1, q2, q3, q4, q5, q6, q7, q8⟩ := p6
      have ei : ∀ a, a ≠ 25 → a ≠ 30 → gi (si (sl (si h6 30 (pS P).length (nI kd)) 26 (pS P).length (lN (e32 (hdT A.2).2.2))) 25 1 (nI ((pS P).length + 1))) a = gi h6 a := fun a ha hb => (pm_u_ne _ _ _ ha).trans (pm_u_ne _ _ _ hb)
      have e30 : gi (si (sl (si h6 30 (pS P).length (nI kd)) 26 (pS P).length (lN (e32 (hdT A.2).2.2))) 25 1 (nI ((pS P).length + 1))) 30 = pm_ui (gi h6 30) (pS P).length (nI kd) := by
        show pm_u (pm_u (gi h6) 30 (pS P).length (nI kd)) 25 1 (nI ((pS P).length + 1)) 30 = _
        rw [pm_u_ne _ _ _ (show 30 ≠ 25 by decide), pm_u_at]
      have ej : ∀ a, a ≠ 26 → gj (si (sl (si h6 30 (pS P).length (nI kd)) 26 (pS P).length (lN (e32 (hdT A.2).2.2))) 25 1 (nI ((pS P).length + 1))) a = gj h6 a := fun a ha => pm_u_ne _ _ _ ha
      obtain ⟨c61, c62, c63, c64, c65, c66⟩ := c6
      have hmap : pSn (plS P (hdT A.2).2.2 kd) = pSn P ++ [(hdT A.2).2.2] := List.map_append
      refine w _ (f06.dr.trans fr) ⟨c61, fr.tx (by unfold drS; omega) c62, (congrFun (ei 55 (by decide) (by decide)) 2).trans c63, c64.keep (ei 1 (by decide) (by decide)) rfl (ej 1 (by decide)), c65, c66⟩ (fun _ => ⟨⟨q1.of (ei _ (by decide) (by decide)) (ej _ (by decide)), ?_, q3.of (ei _ (by decide) (by decide)) (ej _ (by decide)), ?_, ?_, ?_, ?_, ?_⟩, ?_⟩)
      · show NmC _ 25 (pSn (plS P (hdT A.2).2.2 kd))
        rw [hmap]
        have q2' : NmC (si h6 30 (pS P).length (nI kd)) 25 (pSn P) := NmC.of q2 (pm_u_ne (gi h6) (pS P).length (nI kd) (show 25 ≠ 30 by decide)) rfl
        exact q2'.add ls
      · intro i hi
        show gi _ 30 i = nI ((pS P ++ [((hdT A.2).2.2, kd)]).getD i ([], 0)).2
        have hi : i < (pS P ++ [((hdT A.2).2.2, kd)]).length := hi
        rw [List.length_append, List.length_singleton] at hi
        rw [e30, getD_snoc]
        unfold pm_ui
        by_cases c : i < (pS P).length
        · rw [if_neg (by omega), if_pos c]; exact q4 i c
        · rw [if_pos (by omega), if_neg c, if_pos (by omega)]
      · exact fun i hi => ⟨(congrFun (ei 32 (by decide) (by decide)) i).trans (q5 i hi).1, (congrFun (ei 34 (by decide) (by decide)) i).trans (q5 i hi).2.1, (q5 i hi).2.2⟩
      · exact (congrFun (ei 36 (by decide) (by decide)) 1).trans q6
      · rw [ei (22 + 16) (by decide) (by decide)]; exact q7
      · exact (congrFun (ei 22 (by decide) (by decide)) 8).trans q8
      · have pf := f06.plf hF
        exact ⟨(congrFun (ei 55 (by decide) (by decide)) 3).trans pf.1, (congrFun (ei 55 (by decide) (by decide)) 4).trans pf.2⟩
    · rw [if_neg (fun q => z (c6.f0.mp q))]
      exact ⟨rfl, w h6 f06.dr c6 (fun q => absurd q z)⟩
  refine cv_wp rfl (Nat.le_of_ble_eq_true rfl) rfl (x_X5_readShelf ⟨l1, ?_⟩)
  rw [l3, hP.2.1.1, ls]
  refine ⟨n1, ?_⟩
  by_cases c : (pS P).length < 2
  · rw [if_pos (show nI (pS P).length < 2 from (nI_ltI (b := 2) (by omega) (by decide)).mpr c)]
    exact ⟨r1, s_rbegin (d := d) (k := 0) hL hC (by decide) (fun _ _ => h0) (tail _ (by unfold aFull; rw [if_neg (by omega)]))⟩
  · rw [if_neg (show ¬ nI (pS P).length < 2 from fun q => c ((nI_ltI (b := 2) (by omega) (by decide)).mp q))]
    exact ⟨r1, s_rbegin (d := d) (k := 5) hL hC (by decide) (fun q => by cases q) (tail _ (by unfold aFull; rw [if_pos (by omega)]))⟩
theorem s_readShare {Q : pm_H → Prop} (hL : La h) (hC : CS h tx s) (hP : PlC h 22 P) (hF : PlF h P) (hO : PlO P) (h0 : (hdT s.2).2.1 ≠ 0)
    (w : ∀ h', FrS drS h h' → CS h' tx (lineW s P).1 → ((lineW s P).1.1 = 0 → PlC h' 22 (lineW s P).2 ∧ PlF h' (lineW s P).2) → Q h') : cv G (d + 6) m_X5_readShare [.ref 55, .ref 22] h Q := by
  obtain ⟨l1, l2, l3, l4, -⟩ := hL.pl
  obtain ⟨r1, r2, r3⟩ := hL.rdr
  have tail : ∀ A, A = shA s P → ∀ hX, FrD h hX → CS hX tx A → (
      (hX.1[55]? = some (0, 5)) ∧
      ∀ h3 : pm_H, h3 = si hX 55 3 1 →
      ci G (d + 5) m_X5_toldNumber [.ref 55, .int 0, .int 6] h3 fun r4 h5 =>
      (h5.1[55]? = some (0, 5)) ∧
      cv G (d + 5) m_X5_expectEnd [.ref 55] h5 fun h7 =>
      (h7.1[55]? = some (0, 5)) ∧
      if (gi h7 55 2) = 0 then (
        (h7.1[22]? = some (0, 4)) ∧
        ∀ h8 : pm_H, h8 = si h7 22 8 r4 →
        ((none : Option Value) = none ∧ Q h8)
      ) else (
        ((none : Option Value) = none ∧ Q h7)
      )) := by
    intro A eA hX fX cX
    unfold lineW at w
    rw [← eA] at w
    have hLX := fX.la hL
    refine ⟨hLX.rdr.1, ?_⟩
    rintro _ rfl
    have e55 : ∀ k, k ≠ 3 → gi (si hX 55 3 1) 55 k = gi hX 55 k := fun k hk => by
      show pm_u (gi hX) 55 3 1 55 k = _
      rw [pm_u_at]; exact if_neg hk
    have ei : ∀ a, a ≠ 55 → gi (si hX 55 3 1) a = gi hX a := fun a ha => pm_u_ne _ _ _ ha
    have fr1 : FrS drS hX (si hX 55 3 1) := FrS.wi (by unfold drS; omega) (by decide)
    have cY : CS (si hX 55 3 1) tx A := by
      obtain ⟨c1, c2, c3, c4, c5, c6⟩ := cX
      exact ⟨c1, fr1.tx (by unfold drS; omega) c2, (e55 2 (by decide)).trans c3, c4.keep (ei 1 (by decide)) rfl rfl, c5, c6⟩
    have hLY := fr1.la hLX
    refine s_toldNumber (d := d) (lo := 0) (hi := 6) hLY cY (by decide) (by decide) (fun h5 r5 f5 c5 v5 => ?_)
    have hL5 := f5.la hLY
    refine ⟨hL5.rdr.1, s_expectEnd (d := d) hL5 c5 (fun h6 f6 c6 => ?_)⟩
    have hL6 := f6.la hL5
    have c6 : CS h6 tx (sm1 (nNum 0 6 A)) := c6
    have f56 := f5.trans f6
    have fall : FrS drS h h6 := fX.dr.trans (fr1.trans f56.dr)
    refine ⟨hL6.rdr.1, ?_⟩
    by_cases z : (sm1 (nNum 0 6 A)).1 = 0
    · rw [if_pos (c6.f0.mpr z)]
      obtain ⟨z1, z2, -⟩ := stp_0 z
      obtain ⟨z3, z4, -⟩ := stp_0 z2
      obtain ⟨z5, z6, z7⟩ := num_0 z3
      have v := v5 z5
      subst v
      have pX := (fX.pl hP).of (h' := si hX 55 3 1) (fun a h1 h2 => ei a (by omega)) (fun _ _ _ => rfl) (fun _ _ _ => rfl)
      have p6 := f56.pl pX
      refine ⟨hL6.pl.1, ?_⟩
      rintro _ rfl
      have fr : FrS drS h6 (si h6 22 8 (nI (nmv (hdT A.2).2.2))) := FrS.wi (by unfold drS; omega) (by decide)
      obtain ⟨q1, q2, q3, q4, q5, q6, q7, q8⟩ := p6
      have ej : ∀ a, a ≠ 22 → gi (si h6 22 8 (nI (nmv (hdT A.2).2.2))) a = gi h6 a := fun a ha => pm_u_ne _ _ _ ha
      obtain ⟨c61, c62, c63, c64, c65, c66⟩ := c6
      refine ⟨rfl, w _ (fall.trans fr) ⟨c61, fr.tx (by unfold drS; omega) c62, (congrFun (ej 55 (by decide)) 2).trans c63, c64.keep (ej 1 (by decide)) rfl rfl, c65, c66⟩ (fun _ => ⟨⟨q1.of (ej _ (by decide)) rfl, q2.of (ej _ (by decide)) rfl, q3.of (ej _ (by decide)) rfl, ?_, ?_, ?_, ?_, ?_⟩, ?_⟩)⟩
      · exact fun i hi => (congrFun (ej 30 (by decide)) i).trans (q4 i hi)
      · exact fun i hi => ⟨(congrFun (ej 32 (by decide)) i).trans (q5 i hi).1, (congrFun (ej 34 (by decide)) i).trans (q5 i hi).2.1, (q5 i hi).2.2⟩
      · exact (congrFun (ej 36 (by decide)) 1).trans q6
      · rw [ej (22 + 16) (by decide)]; exact q7
      · show pm_u (gi h6) 22 8 (nI (nmv (hdT A.2).2.2)) 22 8 = _
        rw [pm_u_at]; exact if_pos rfl
      · have pf := fX.plf hF
        refine ⟨(congrFun (ej 55 (by decide)) 3).trans (f56.2.1.trans ?_), (congrFun (ej 55 (by decide)) 4).trans (f56.2.2.trans ((e55 4 (by decide)).trans pf.2))⟩
        show pm_u (gi hX) 55 3 1 55 3 = _
        rw [pm_u_at]; exact if_pos rfl
    · rw [if_neg (fun q => z (c6.f0.mp q))]
      exact ⟨rfl, w h6 fall c6 (fun q => absurd q z)⟩
  refine cv_wp rfl (Nat.le_of_ble_eq_true rfl) rfl (x_X5_readShare ⟨r1, ?_⟩)
  rw [hF.1]
  by_cases c : pFs P = true
  · rw [c, if_neg (show ¬ b2i true = 0 by decide)]
    exact s_rbegin (d := d) (k := 3) hL hC (by decide) (fun q => by cases q) (tail _ (by unfold shA; rw [if_pos c]))
  · rw [show pFs P = false by simpa using c, if_pos (show b2i false = 0 from rfl)]
    exact s_rbegin (d := d) (k := 0) hL hC (by decide) (fun _ _ => h0) (tail _ (by unfold shA; rw [if_neg c]))
end LNS
