/-! WORK: read by the class -/
def DW (h : pm_H) (W : List Ln) : Prop := gi h 48 3 = nI W.length ∧ ∀ i q, W[i]? = some q → gi h 50 i = nI q.1 ∧ gi h 52 i = nI q.2.1 ∧ (q.1 ≠ 1 → gi h 54 i = nI q.2.2)
theorem si_to {h : pm_H} {a b k j : Nat} {v : Int32} (hb : b ≠ a) : gi (si h a k v) b j = gi h b j := congrFun (pm_u_ne (gi h) k v hb) j
theorem si_on {h : pm_H} {a k j : Nat} {v : Int32} : gi (si h a k v) a j = if j = k then v else gi h a j := by
  show pm_u (gi h) a k v a j = _
  rw [pm_u_at]; rfl
theorem wk_add {h : pm_H} {n i : Nat} {a b c v : Int32} : gi (si (si (si (si h 50 n a) 52 n b) 54 n c) 48 3 v) 48 3 = v ∧ gi (si (si (si (si h 50 n a) 52 n b) 54 n c) 48 3 v) 50 i = (if i = n then a else gi h 50 i) ∧ gi (si (si (si (si h 50 n a) 52 n b) 54 n c) 48 3 v) 52 i = (if i = n then b else gi h 52 i) ∧ gi (si (si (si (si h 50 n a) 52 n b) 54 n c) 48 3 v) 54 i = (if i = n then c else gi h 54 i) := by
  refine ⟨?_, ?_, ?_, ?_⟩
  · rw [si_on]; exact if_pos rfl
  · rw [si_to (by decide), si_to (by decide), si_to (by decide), si_on]
  · rw [si_to (by decide), si_to (by decide), si_on, si_to (by decide)]
  · rw [si_to (by decide), si_on, si_to (by decide), si_to (by decide)]
section CWR
variable {G : pm_G} {d : Nat} {h : pm_H} {tx : List Nat} {s : PS} {P : Pl} {W : List Ln}
theorem FrS.nmw {h h' : pm_H} {o : Nat} {ns : List (List Nat)} (f : FrS wkS h h') (ho : 3 < o ∧ o < 10) (hN : NmC h o ns) : NmC h' o ns := by
  have a : ¬ wkS o := by unfold wkS; omega
  have b : ¬ wkS (o + 1) := by unfold wkS; omega
  exact ⟨(congrFun (f.2.1 o a) 1).trans hN.1, fun i hi => (congrFun (f.2.2.2.1 (o + 1) b) i).trans (hN.2 i hi)⟩
theorem s_readWl {Q : pm_H → Prop} (hL : La h) (hC : CS h tx s) (h1 : NmC h 4 (pH P)) (h2 : NmC h 6 (pSn P)) (h3 : NmC h 8 (pIn P)) (hO : PlO P) (hW : DW h W) (hn : W.length ≤ 30) (w : ∀ h', FrS wkS h h' → CS h' tx (wk3 P W.length s) → ((wk3 P W.length s).1 = 0 → DW h' (W ++ [wkQ P W.length s])) → Q h') : cv G (d + 6) m_X5_readLine [.ref 55, .ref 3, .ref 48] h Q := by
  obtain ⟨r1, r2, r3⟩ := hL.rdr
  obtain ⟨r, e1, e2, hf⟩ := hC.2.2.2.1.at
  have f3 : gp h 1 5 = 1000 + wcl (hdT s.2) := hf.2.2.1
  have l2 : (pSn P).length ≤ 2 := by unfold pSn; rw [List.length_map]; exact hO.2.2.2.2.1
  have l3 : (pIn P).length ≤ 20 := by unfold pIn; rw [List.length_map]; exact hO.2.2.2.2.2.1
  have l1 : (pH P).length ≤ 3 := hO.2.2.2.1
  have kl := deK_le (hdT s.2)
  have ks : deK (hdT s.2) ≠ 4 → (hdT s.2).2.1 = 1 := fun q => deK_sort q
  -- the last of it
  have m150 : ∀ h4 v1 v2, FrS wkS h h4 → CS h4 tx (wk2 P W.length s) → gi h4 48 = gi h 48 → gi h4 50 = gi h 50 → gi h4 52 = gi h 52 → gi h4 54 = gi h 54 → ((wk2 P W.length s).1 = 0 → v1 = nI (wkQ P W.length s).2.1 ∧ (deK (hdT s.2) ≠ 1 → v2 = nI (wkQ P W.length s).2.2)) → Wp G (m_X5_readLine, d + 6, 0, 0, fun v h1 => v = none ∧ Q h1) (0, 0) 150 [.ref 55, .null, .ref 48, .null, .int (dI (deK (hdT s.2))), .int v1, .int v2] [] h4 := by
    intro h4 v1 v2 f4 c4 g48 g50 g52 g54 hv
    have hL4 := f4.la hL
    obtain ⟨r1, r2, r3⟩ := hL4.rdr
    refine x_X5_readLine_150 ⟨r1, s_expectEnd (d := d) hL4 c4 (fun h5 f5 c5 => ?_)⟩
    have hL5 := f5.la hL4
    have c5 : CS h5 tx (wk3 P W.length s) := c5
    have f5' := f4.trans f5.wk
    have e48 : ∀ a, 48 ≤ a → a ≤ 54 → gi h5 a = gi h4 a := fun a x1 x2 => f5.1.2.1 a (by unfold rdS; omega)
    refine ⟨hL5.rdr.1, ?_⟩
    by_cases c : (wk3 P W.length s).1 = 0
    · rw [if_pos (c5.f0.mpr c)]
      obtain ⟨a1, a2, a3, a4, a5, a6, a7, a8, a9⟩ := wk_0 c
      obtain ⟨v1e, v2e⟩ := hv a8
      have z48 : gi h5 48 3 = nI W.length := by rw [e48 48 (by decide) (by decide), g48]; exact hW.1
      refine ⟨hL5.wks.1, s_workAdd (d := d + 3) hL5 z48 a3 ⟨rfl, w _ ?_ ?_ (fun _ => ?_)⟩⟩
      · refine f5'.trans ((FrS.wi (by unfold wkS; omega) (by decide)).trans ((FrS.wi (by unfold wkS; omega) (by decide)).trans ((FrS.wi (by unfold wkS; omega) (by decide)).trans (FrS.wi (by unfold wkS; omega) (by decide)))))
      · obtain ⟨b1, b2, b3, b4, b5, b6⟩ := c5
        have ne : ∀ a, a < 48 ∨ 54 < a → gi (si (si (si (si h5 50 W.length (dI (deK (hdT s.2)))) 52 W.length v1) 54 W.length v2) 48 3 (nI (W.length + 1))) a = gi h5 a := fun a ha => (pm_u_ne _ _ _ (by omega)).trans ((pm_u_ne _ _ _ (by omega)).trans ((pm_u_ne _ _ _ (by omega)).trans (pm_u_ne _ _ _ (by omega))))
        exact ⟨b1, b2.of (congrFun (ne 1 (by omega)) 1) (ne 2 (by omega)), (congrFun (ne 55 (by omega)) 2).trans b3, b4.keep (ne 1 (by omega)) rfl rfl, b5, b6⟩
      · refine ⟨?_, fun i q hq => ?_⟩
        · rw [List.length_append, List.length_singleton]
          exact (wk_add (i := 0)).1
        · obtain ⟨-, n50, n52, n54⟩ := wk_add (h := h5) (n := W.length) (i := i) (a := dI (deK (hdT s.2))) (b := v1) (c := v2) (v := nI (W.length + 1))
          rw [n50, n52, n54]
          by_cases c : i = W.length
          · rw [c, List.getElem?_append_right (Nat.le_refl _), Nat.sub_self] at hq
            have hq : wkQ P W.length s = q := by simpa using hq
            rw [if_pos c, if_pos c, if_pos c, ← hq]
            refine ⟨?_, v1e, v2e⟩
            show dI _ = nI (deK _)
            unfold dI
            rw [if_neg a2]
          · have li := (List.getElem?_eq_some_iff.mp hq).1
            rw [List.length_append, List.length_singleton] at li
            rw [List.getElem?_append_left (by omega)] at hq
            rw [if_neg c, if_neg c, if_neg c, e48 50 (by decide) (by decide), g50, e48 52 (by decide) (by decide), g52, e48 54 (by decide) (by decide), g54]
            exact hW.2 i q hq
    · rw [if_neg (fun q => c (c5.f0.mp q))]
      exact ⟨rfl, w h5 f5' c5 (fun q => absurd q c)⟩
  -- the last name
  have m133 : ∀ (h3 : pm_H) (v : Int32) (o m : Nat), deK (hdT s.2) ≠ 1 → FrS wkS h h3 → CS h3 tx (wk1 P W.length s) → gi h3 48 = gi h 48 → gi h3 50 = gi h 50 → gi h3 52 = gi h 52 → gi h3 54 = gi h 54 → ((wk1 P W.length s).1 = 0 → v = nI (wkQ P W.length s).2.1 ∧ (deK (hdT s.2) = 2 → v = oI (idN (pH P) (hdT (wk0 W.length s).2)))) → h3.1[o]? = some (0, 3) → gp h3 o 0 = o + 1 → h3.1[o + 1]? = some (2, m) → NmC h3 o (wkM P (deK (hdT s.2))) → NmO (wkM P (deK (hdT s.2))) → (wkM P (deK (hdT s.2))).length ≤ m → m < 1000 → Wp G (m_X5_readLine, d + 6, 0, 0, fun v h1 => v = none ∧ Q h1) (0, 0) 133 [.ref 55, .null, .ref 48, .null, .int (dI (deK (hdT s.2))), .int v, .null] [.ref o, .ref 55] h3 := by
    intro h3 v o m k1 f3 c3 g48 g50 g52 g54 hv x1 x2 x3 nm no ln lm
    have hL3 := f3.la hL
    obtain ⟨r1, r2, r3⟩ := hL3.rdr
    have e2 : wk2 P W.length s = oOld (wkM P (deK (hdT s.2))) (wkB P (deK (hdT s.2)) (hdT (wk0 W.length s).2)) (wk1 P W.length s) := by unfold wk2; rw [if_neg k1]
    have fin : ∀ h4 r, FrD h3 h4 → CS h4 tx (wk2 P W.length s) → ((wk2 P W.length s).1 = 0 → nameT (hdT (wk1 P W.length s).2) = true → r = oI (idN (wkM P (deK (hdT s.2))) (hdT (wk1 P W.length s).2))) → Wp G (m_X5_readLine, d + 6, 0, 0, fun v h1 => v = none ∧ Q h1) (0, 0) 150 [.ref 55, .null, .ref 48, .null, .int (dI (deK (hdT s.2))), .int v, .int r] [] h4 := by
      intro h4 r f4 c4 hr
      have e48 : ∀ a, 48 ≤ a → a ≤ 54 → gi h4 a = gi h3 a := fun a x1 x2 => f4.1.2.1 a (by unfold rdS; omega)
      refine m150 h4 v r (f3.trans f4.wk) c4 ((e48 48 (by decide) (by decide)).trans g48) ((e48 50 (by decide) (by decide)).trans g50) ((e48 52 (by decide) (by decide)).trans g52) ((e48 54 (by decide) (by decide)).trans g54) (fun q => ?_)
      have q' := q
      rw [e2] at q'
      obtain ⟨ok, p1, -⟩ := stp_0 (show (stp _ (wk1 P W.length s)).1 = 0 from q')
      obtain ⟨n1, ⟨y, y1, y2⟩, -⟩ := old_0 ok
      refine ⟨(hv p1).1, fun _ => ?_⟩
      rw [hr q n1, y1]
      unfold wkQ
      rw [if_neg k1, y1]; rfl
    refine x_X5_readLine_133 ?_
    by_cases k2 : deK (hdT s.2) = 2
    · rw [if_pos (show dI (deK (hdT s.2)) = 2 from (dI_is (j := 2) kl (by decide)).mpr k2)]
      refine ⟨r1, ?_⟩
      by_cases z : (wk1 P W.length s).1 = 0
      · rw [(hv z).2 k2]
        rw [(hv z).2 k2] at fin
        refine s_oldName (d := d) (but := idN (pH P) (hdT (wk0 W.length s).2)) hL3 c3 x1 x2 x3 nm no ln lm (fun x hx => by have := idN_lt hx; omega) (fun h4 r f4 c4 hr => fin h4 r f4 ?_ (fun _ => hr))
        rw [e2]
        unfold wkB
        rw [if_pos k2]
        exact c4
      · refine s_oldFlt (d := d) (b := v) hL3 c3 z x1 x2 x3 nm ln lm (fun h4 r f4 c4 => ?_)
        have e : wk2 P W.length s = wk1 P W.length s := by rw [e2]; exact (stp_sm _ _).2 z
        exact fin h4 r f4 (by rw [e]; exact c4) (fun q => absurd (by rw [e] at q; exact q) z)
    · rw [if_neg (show ¬ dI (deK (hdT s.2)) = 2 from fun q => k2 ((dI_is (j := 2) kl (by decide)).mp q))]
      refine ⟨r1, s_oldName (d := d) (but := none) hL3 c3 x1 x2 x3 nm no ln lm (fun x hx => by cases hx) (fun h4 r f4 c4 hr => fin h4 r f4 ?_ (fun _ => hr))⟩
      rw [e2]
      unfold wkB
      rw [if_neg k2]
      exact c4
  -- the first name
  have m100 : ∀ (h2' : pm_H) (o m : Nat), FrS wkS h h2' → CS h2' tx (wk0 W.length s) → gi h2' 48 = gi h 48 → gi h2' 50 = gi h 50 → gi h2' 52 = gi h 52 → gi h2' 54 = gi h 54 → h2'.1[o]? = some (0, 3) → gp h2' o 0 = o + 1 → h2'.1[o + 1]? = some (2, m) → NmC h2' o (wkN P (deK (hdT s.2))) → NmO (wkN P (deK (hdT s.2))) → (wkN P (deK (hdT s.2))).length ≤ m → m < 1000 → Wp G (m_X5_readLine, d + 6, 0, 0, fun v h1 => v = none ∧ Q h1) (0, 0) 100 [.ref 55, .ref 3, .ref 48, .null, .int (dI (deK (hdT s.2))), .null, .null] [.ref o, .ref 55] h2' := by
    intro h2' o m f2 c2 g48 g50 g52 g54 x1 x2 x3 nm no ln lm
    have hL2 := f2.la hL
    refine x_X5_readLine_100 ⟨hL2.rdr.1, s_oldName (d := d) (but := none) hL2 c2 x1 x2 x3 nm no ln lm (fun x hx => by cases hx) (fun h3 r f3 c3 hr => ?_)⟩
    have hL3 := f3.la hL2
    have c3 : CS h3 tx (wk1 P W.length s) := c3
    have e48 : ∀ a, 48 ≤ a → a ≤ 54 → gi h3 a = gi h2' a := fun a x1 x2 => f3.1.2.1 a (by unfold rdS; omega)
    have fa := f2.trans f3.wk
    have hv : (wk1 P W.length s).1 = 0 → r = nI (wkQ P W.length s).2.1 ∧ r = oI (idN (wkN P (deK (hdT s.2))) (hdT (wk0 W.length s).2)) := by
      intro q
      obtain ⟨ok, p1, -⟩ := stp_0 (show (stp _ (wk0 W.length s)).1 = 0 from q)
      obtain ⟨n1, ⟨y, y1, y2⟩, -⟩ := old_0 ok
      refine ⟨?_, hr n1⟩
      rw [hr n1, y1]
      unfold wkQ
      rw [y1]; rfl
    by_cases k1 : deK (hdT s.2) = 1
    · rw [if_pos (show dI (deK (hdT s.2)) = 1 from (dI_is (j := 1) kl (by decide)).mpr k1)]
      have e2 : wk2 P W.length s = wk1 P W.length s := by unfold wk2; rw [if_pos k1]
      refine m150 h3 r (-1) fa (by rw [e2]; exact c3) ((e48 48 (by decide) (by decide)).trans g48) ((e48 50 (by decide) (by decide)).trans g50) ((e48 52 (by decide) (by decide)).trans g52) ((e48 54 (by decide) (by decide)).trans g54) (fun q => ?_)
      rw [e2] at q
      exact ⟨(hv q).1, fun c => absurd k1 c⟩
    · rw [if_neg (show ¬ dI (deK (hdT s.2)) = 1 from fun q => k1 ((dI_is (j := 1) kl (by decide)).mp q))]
      obtain ⟨p1, p2, p3, p4, p5, p6, p7⟩ := hL3.pln
      obtain ⟨-, -, ⟨n1, n2⟩, ⟨n3, n4⟩, ⟨n5, n6⟩⟩ := hL3.pcp
      by_cases k3 : deK (hdT s.2) = 3
      · rw [if_pos (show dI (deK (hdT s.2)) = 3 from (dI_is (j := 3) kl (by decide)).mpr k3), p3]
        have eM : wkM P (deK (hdT s.2)) = pSn P := if_pos k3
        exact ⟨p1, m133 h3 r 6 2 k1 fa c3 ((e48 48 (by decide) (by decide)).trans g48) ((e48 50 (by decide) (by decide)).trans g50) ((e48 52 (by decide) (by decide)).trans g52) ((e48 54 (by decide) (by decide)).trans g54) (fun q => ⟨(hv q).1, fun z => by omega⟩) p6 n3 n4 (by rw [eM]; exact fa.nmw (by decide) h2) (by rw [eM]; exact hO.2.1) (by rw [eM]; exact l2) (by decide)⟩
      · rw [if_neg (show ¬ dI (deK (hdT s.2)) = 3 from fun q => k3 ((dI_is (j := 3) kl (by decide)).mp q)), p2]
        have eM : wkM P (deK (hdT s.2)) = pH P := if_neg k3
        refine ⟨p1, m133 h3 r 4 3 k1 fa c3 ((e48 48 (by decide) (by decide)).trans g48) ((e48 50 (by decide) (by decide)).trans g50) ((e48 52 (by decide) (by decide)).trans g52) ((e48 54 (by decide) (by decide)).trans g54) (fun q => ⟨(hv q).1, fun z => ?_⟩) p5 n1 n2 (by rw [eM]; exact fa.nmw (by decide) h1) (by rw [eM]; exact hO.1) (by rw [eM]; exact l1) (by decide)⟩
        have eN : wkN P (deK (hdT s.2)) = pH P := if_neg (by omega)
        have := (hv q).2
        rw [eN] at this
        exact this
  have m80 : Wp G (m_X5_readLine, d + 6, 0, 0, fun v h1 => v = none ∧ Q h1) (0, 0) 80 [.ref 55, .ref 3, .ref 48, .null, .int (dI (deK (hdT s.2))), .null, .null] [.int (nI (wkE W.length (deK (hdT s.2)))), .ref 55] h := by
    refine x_X5_readLine_80 ⟨r1, s_rbegin (d := d) (k := wkE W.length (deK (hdT s.2))) hL hC (by unfold wkE; split <;> (try split) <;> decide) (fun q _ => ?_) (fun h2' f2 c2 => ?_)⟩
    · unfold wkE at q
      by_cases k4 : deK (hdT s.2) = 4
      · rw [if_pos k4] at q; cases q
      · rw [ks k4]; decide
    · have hL2 := f2.la hL
      have c2 : CS h2' tx (wk0 W.length s) := c2
      obtain ⟨p1, p2, p3, p4, p5, p6, p7⟩ := hL2.pln
      obtain ⟨-, -, ⟨n1, n2⟩, ⟨n3, n4⟩, ⟨n5, n6⟩⟩ := hL2.pcp
      have e48 : ∀ a, 48 ≤ a → a ≤ 54 → gi h2' a = gi h a := fun a x1 x2 => f2.1.2.1 a (by unfold rdS; omega)
      by_cases k0 : deK (hdT s.2) = 0
      · rw [if_pos (show dI (deK (hdT s.2)) = 0 from (dI_is (j := 0) kl (by decide)).mpr k0), p4]
        have eM : wkN P (deK (hdT s.2)) = pIn P := if_pos k0
        exact ⟨p1, m100 h2' 8 20 f2.wk c2 (e48 48 (by decide) (by decide)) (e48 50 (by decide) (by decide)) (e48 52 (by decide) (by decide)) (e48 54 (by decide) (by decide)) p7 n5 n6 (by rw [eM]; exact f2.wk.nmw (by decide) h3) (by rw [eM]; exact hO.2.2.1) (by rw [eM]; exact l3) (by decide)⟩
      · rw [if_neg (show ¬ dI (deK (hdT s.2)) = 0 from fun q => k0 ((dI_is (j := 0) kl (by decide)).mp q)), p2]
        have eM : wkN P (deK (hdT s.2)) = pH P := if_neg k0
        exact ⟨p1, m100 h2' 4 3 f2.wk c2 (e48 48 (by decide) (by decide)) (e48 50 (by decide) (by decide)) (e48 52 (by decide) (by decide)) (e48 54 (by decide) (by decide)) p5 n1 n2 (by rw [eM]; exact f2.wk.nmw (by decide) h1) (by rw [eM]; exact hO.1) (by rw [eM]; exact l1) (by decide)⟩
  have m53 : ∀ v, v = dI (deK (hdT s.2)) → Wp G (m_X5_readLine, d + 6, 0, 0, fun v h1 => v = none ∧ Q h1) (0, 0) 53 [.ref 55, .ref 3, .ref 48, .null, .null, .null, .null] [.int v] h := by
    rintro _ rfl
    refine x_X5_readLine_53 ?_
    unfold wkE at m80
    by_cases k4 : deK (hdT s.2) = 4
    · rw [if_pos ((dI_m1 kl).mpr k4)]
      rw [if_pos k4] at m80
      exact m80
    · rw [if_neg (fun q => k4 ((dI_m1 kl).mp q))]
      rw [if_neg k4] at m80
      refine ⟨hL.wks.1, ?_⟩
      rw [hW.1]
      by_cases n30 : W.length < 30
      · rw [if_pos (show nI W.length < 30 from (nI_ltI (b := 30) (by omega) (by decide)).mpr n30)]
        rw [if_pos n30] at m80
        exact m80
      · rw [if_neg (show ¬ nI W.length < 30 from fun q => n30 ((nI_ltI (b := 30) (by omega) (by decide)).mp q))]
        rw [if_neg n30] at m80
        exact m80
  clear m80 m100 m133 m150
  refine cv_wp rfl (Nat.le_of_ble_eq_true rfl) rfl (x_X5_readLine ⟨r1, ?_⟩)
  rw [r2]
  refine ⟨hL.tap.1, wcl (hdT s.2), wcl_lt _, f3, ?_⟩
  unfold deK at m53
  by_cases w1 : wcl (hdT s.2) = 8
  · rw [if_pos w1] at m53
    rw [if_pos w1]
    exact m53 0 rfl
  rw [if_neg w1] at m53
  rw [if_neg w1]
  refine ⟨wcl (hdT s.2), wcl_lt _, f3, ?_⟩
  by_cases w2 : wcl (hdT s.2) = 9
  · rw [if_pos w2] at m53
    rw [if_pos w2]
    exact m53 1 rfl
  rw [if_neg w2] at m53
  rw [if_neg w2]
  refine ⟨wcl (hdT s.2), wcl_lt _, f3, ?_⟩
  by_cases w3 : wcl (hdT s.2) = 10
  · rw [if_pos w3] at m53
    rw [if_pos w3]
    exact m53 2 rfl
  rw [if_neg w3] at m53
  rw [if_neg w3]
  refine ⟨wcl (hdT s.2), wcl_lt _, f3, ?_⟩
  by_cases w4 : wcl (hdT s.2) = 11
  · rw [if_pos w4] at m53
    rw [if_pos w4]
    exact m53 3 rfl
  rw [if_neg w4] at m53
  rw [if_neg w4]
  exact m53 (-1) rfl
end CWR
