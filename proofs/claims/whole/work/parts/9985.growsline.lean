/-! THE READER: the LAW's line, and a whole QUEUE -/
theorem alo_sm : Sm (alo (prt 5)) := lvl_sm (lvl_sm (lvl_sm (lvl_sm (prt_sm 5))))
theorem lawE_alo (ts : List Tk) : sm1 (wrg (lawE ts).1 (0, (lawE ts).2.1)) = sm1 (alo (prt 5) (0, ts)).1 ∧ ((sm1 (alo (prt 5) (0, ts)).1).1 = 0 → (lawE ts).1 = 0 ∧ (lawE ts).2.2 = (alo (prt 5) (0, ts)).2) := by
  unfold lawE
  by_cases c : (alo (prt 5) (0, ts)).1.1 ≠ 0
  · rw [if_pos c]
    refine ⟨rfl, fun q => ?_⟩
    obtain ⟨-, q2, -⟩ := stp_0 q
    exact absurd q2 c
  · have c' : (alo (prt 5) (0, ts)).1.1 = 0 := by
      by_cases z : (alo (prt 5) (0, ts)).1.1 = 0
      · exact z
      · exact absurd z c
    have e : (alo (prt 5) (0, ts)).1 = (0, (alo (prt 5) (0, ts)).1.2) := Prod.ext c' rfl
    rw [if_neg c]
    by_cases c2 : tS 59 (hdT (alo (prt 5) (0, ts)).1.2) = true
    · rw [if_pos c2]
      refine ⟨?_, fun _ => ⟨rfl, rfl⟩⟩
      show sm1 (wrg 0 (0, (alo (prt 5) (0, ts)).1.2)) = _
      rw [← e]
      have : wrg 0 (alo (prt 5) (0, ts)).1 = (alo (prt 5) (0, ts)).1 := by
        unfold wrg; rw [if_pos c']; exact e.symm
      rw [this]
    · rw [if_neg c2]
      have sm : semi (alo (prt 5) (0, ts)).1 = 1 := if_neg c2
      have e2 : sm1 (alo (prt 5) (0, ts)).1 = (1, (alo (prt 5) (0, ts)).1.2) := by
        unfold sm1 stp
        rw [if_pos c', sm, if_neg (by decide)]
      rw [e2]
      refine ⟨rfl, fun q => ?_⟩
      cases q
section LN3
variable {G : pm_G} {d : Nat} {h : pm_H} {tx : List Nat} {s : PS} {P : Pl}
theorem s_readGrows {Q : pm_H → Prop} (hL : La h) (hC : CS h tx s) (hP : PlC h 22 P) (hF : PlF h P) (hG : pFg P = false → pLw P = []) (h0 : (hdT s.2).2.1 ≠ 0) (hl : s.2.length ≤ 1001)
    (w : ∀ h', FrS drS h h' → CS h' tx (lineG s P).1 → ((lineG s P).1.1 = 0 → PlC h' 22 (lineG s P).2 ∧ PlF h' (lineG s P).2) → Q h') : cv G (d + 6) m_X5_readGrows [.ref 55, .ref 22] h Q := by
  obtain ⟨l1, l2, l3, l4, -⟩ := hL.pl
  obtain ⟨r1, r2, r3⟩ := hL.rdr
  have hsm := alo_sm
  unfold lineG at w
  generalize hal : alo (prt 5) = al at w hsm
  have tail : ∀ A, A = gwA s P → ∀ hX, FrD h hX → CS hX tx A → (
      (hX.1[55]? = some (0, 5)) ∧
      ∀ h3 : pm_H, h3 = si hX 55 4 1 →
      if (gi h3 55 2) = 0 then (
        (hX.1[22]? = some (0, 4)) ∧
        (hX.1[gp h3 55 1]? = some (0, 2)) ∧
        ci G (d + 5) m_X2_readLaw [.ref (gp h3 55 1), .ref (gp h3 22 7)] h3 fun r4 h5 =>
        (h5.1[55]? = some (0, 5)) ∧
        cv G (d + 5) m_X5_fail [.ref 55, .int r4] h5 fun h7 =>
        (h7.1[55]? = some (0, 5)) ∧
        cv G (d + 5) m_X5_expectEnd [.ref 55] h7 fun h9 =>
        ((none : Option Value) = none ∧ Q h9)
      ) else (
        cv G (d + 5) m_X5_expectEnd [.ref 55] h3 fun h11 =>
        ((none : Option Value) = none ∧ Q h11)
      )) := by
    intro A eA hX fX cX
    rw [← eA] at w
    have hLX := fX.la hL
    refine ⟨hLX.rdr.1, ?_⟩
    rintro _ rfl
    have e55 : ∀ k, k ≠ 4 → gi (si hX 55 4 1) 55 k = gi hX 55 k := fun k hk => by
      show pm_u (gi hX) 55 4 1 55 k = _
      rw [pm_u_at]; exact if_neg hk
    have e554 : gi (si hX 55 4 1) 55 4 = 1 := by
      show pm_u (gi hX) 55 4 1 55 4 = _
      rw [pm_u_at]; exact if_pos rfl
    have ei : ∀ a, a ≠ 55 → gi (si hX 55 4 1) a = gi hX a := fun a ha => pm_u_ne _ _ _ ha
    have fr1 : FrS drS hX (si hX 55 4 1) := FrS.wi (by unfold drS; omega) (by decide)
    have cY : CS (si hX 55 4 1) tx A := cX.of fr1 (e55 2 (by decide)) (ei 1 (by decide)) rfl rfl
    have hLY := fr1.la hLX
    have pY : PlC (si hX 55 4 1) 22 P := (fX.pl hP).of (fun a h1 h2 => ei a (by omega)) (fun _ _ _ => rfl) (fun _ _ _ => rfl)
    have f55 : gi (si hX 55 4 1) 55 3 = b2i (pFs P) := (e55 3 (by decide)).trans (fX.2.1.trans hF.1)
    have p1 : gp (si hX 55 4 1) 55 1 = 56 := hLX.rdr.2.2
    have p2 : gp (si hX 55 4 1) 22 7 = 36 := hLX.p (by decide +kernel) (by omega)
    have fXY := fX.dr.trans fr1
    generalize si hX 55 4 1 = hY at *
    by_cases a0 : A.1 = 0
    · rw [if_pos (cY.f0.mpr a0), p1, p2]
      obtain ⟨z1, z2, z3⟩ := stp_0 (s := s) (k := if pFg P = true then 3 else 0) (by show (gwA s P).1 = 0; rw [← eA]; exact a0)
      have nf : pFg P = false := by
        cases hf : pFg P with
        | false => rfl
        | true => rw [hf, if_pos rfl] at z1; cases z1
      have nil := hG nf
      have eAt : A = (0, s.2.tail) := by rw [eA]; exact z3
      have tl : s.2.tail.length = s.2.length - 1 := List.length_tail
      have e36 : gi hY 36 1 = 0 := by rw [pY.2.2.2.2.2.1, nil]; rfl
      obtain ⟨c1, c2, c3, c4, c5, c6⟩ := id cY
      have hok := lawE_ok c5
      have hbb := lawE_alo A.2
      rw [hal] at hbb
      have eA0 : A = (0, A.2) := Prod.ext a0 rfl
      have RL : ∀ P' : Int32 → pm_H → Prop, (∀ h', FrS lwS hY h' → CurC h' tx (lawE A.2).2.1 → (lawE A.2).1 < 10 → ((lawE A.2).1 = 0 → (lawE A.2).2.2.length ≤ 1000 ∧ gi h' 36 1 = nI (lawE A.2).2.2.length ∧ CO (gi h' 38) 0 (lawE A.2).2.2) → P' (nI (lawE A.2).1) h') → ci G (d + 5) m_X2_readLaw [.ref 56, .ref 36] hY P' := fun P' k' => s_readLaw (d := d) c1 hLY c2 c4 c5 (by rw [eAt]; show s.2.tail.length ≤ 1001; omega) e36 k' (by have := hok.2.1; omega)
      generalize lawE A.2 = R at *
      obtain ⟨o1, o2, o3, o4⟩ := hok
      obtain ⟨b1, b2⟩ := hbb
      refine ⟨hLX.pl.1, hLX.lwr.1, RL _ (fun h5 f5 c5' k10 ops5 => ?_)⟩
      have hL5 := f5.la hLY
      have cs5 : CS h5 tx (0, R.2.1) := by
        refine ⟨c1, f5.tx (by unfold lwS; omega) c2, ?_, c5', o1, Nat.zero_le _⟩
        refine (congrFun (f5.2.1 55 (by unfold lwS; omega)) 2).trans (c3.trans ?_)
        unfold flv
        rw [if_pos a0]; rfl
      refine ⟨hL5.rdr.1, s_fail (d := d + 4) hL5 cs5 o2 (fun h7 f7 c7 => ?_)⟩
      have hL7 := f7.la hL5
      refine ⟨hL7.rdr.1, s_expectEnd (d := d) hL7 c7 (fun h9 f9 c9 => ?_)⟩
      have c9 : CS h9 tx (sm1 (wrg R.1 (0, R.2.1))) := c9
      rw [b1, ← eA0] at c9
      rw [← eA0] at b2
      have f79 := f7.trans f9
      have f5d : FrS drS hY h5 := f5.mono (fun a q => by unfold lwS at q; unfold drS; omega)
      refine ⟨rfl, w h9 (fXY.trans (f5d.trans f79.dr)) c9 (fun z => ?_)⟩
      obtain ⟨y1, y2⟩ := b2 z
      obtain ⟨x1, x2, x3⟩ := ops5 y1
      obtain ⟨q1, q2, q3, q4, q5, q6, q7, q8⟩ := pY
      have g : ∀ a, 22 ≤ a → a ≤ 35 → gi h9 a = gi hY a := fun a h1 h2 => (f79.1.2.1 a (by unfold rdS; omega)).trans (f5.2.1 a (by unfold lwS; omega))
      have gl : ∀ a, 22 ≤ a → a ≤ 38 → a ≠ 36 → a ≠ 38 → gj h9 a = gj hY a := fun a h1 h2 h3 h4 => (f79.1.2.2.2.1 a (by unfold rdS; omega)).trans (f5.2.2.2.1 a (by unfold lwS; omega))
      have gfl : gf h9 35 = gf hY 35 := (f79.1.2.2.2.2.1 35 (by unfold rdS; omega)).trans (f5.2.2.2.2.1 35 (by unfold lwS; omega))
      have g6 : ∀ a, a = 36 ∨ a = 38 → gi h9 a = gi h5 a := fun a ha => f79.1.2.1 a (by unfold rdS; omega)
      rw [y2] at x2 x3
      refine ⟨⟨q1.of (g _ (by decide) (by decide)) (gl _ (by decide) (by decide) (by decide) (by decide)), q2.of (g _ (by decide) (by decide)) (gl _ (by decide) (by decide) (by decide) (by decide)), q3.of (g _ (by decide) (by decide)) (gl _ (by decide) (by decide) (by decide) (by decide)), fun i hi => (congrFun (g 30 (by decide) (by decide)) i).trans (q4 i hi), fun i hi => ⟨(congrFun (g 32 (by decide) (by decide)) i).trans (q5 i hi).1, (congrFun (g 34 (by decide) (by decide)) i).trans (q5 i hi).2.1, (congrFun gfl i).trans (q5 i hi).2.2⟩, (congrFun (g6 36 (Or.inl rfl)) 1).trans x2, ?_, (congrFun (g 22 (by decide) (by decide)) 8).trans q8⟩, ?_, ?_⟩
      · rw [show (22 + 16 : Nat) = 38 from rfl, g6 38 (Or.inr rfl)]; exact x3
      · exact f79.2.1.trans ((congrFun (f5.2.1 55 (by unfold lwS; omega)) 3).trans f55)
      · exact f79.2.2.trans ((congrFun (f5.2.1 55 (by unfold lwS; omega)) 4).trans e554)
    · rw [if_neg (fun q => a0 (cY.f0.mp q))]
      refine s_expectEnd (d := d) hLY cY (fun h9 f9 c9 => ?_)
      have c9 : CS h9 tx (sm1 A) := c9
      have eal : al A = (A, []) := (hsm A).2 a0
      rw [eal] at w
      refine ⟨rfl, w h9 (fXY.trans f9.dr) c9 (fun z => ?_)⟩
      obtain ⟨-, z2, -⟩ := stp_0 z
      exact absurd z2 a0
  refine cv_wp rfl (Nat.le_of_ble_eq_true rfl) rfl (x_X5_readGrows ⟨r1, ?_⟩)
  rw [hF.2]
  by_cases c : pFg P = true
  · rw [c, if_neg (show ¬ b2i true = 0 by decide)]
    exact s_rbegin (d := d) (k := 3) hL hC (by decide) (fun q => by cases q) (tail _ (by unfold gwA; rw [if_pos c]))
  · rw [show pFg P = false by simpa using c, if_pos (show b2i false = 0 from rfl)]
    exact s_rbegin (d := d) (k := 0) hL hC (by decide) (fun _ _ => h0) (tail _ (by unfold gwA; rw [if_neg c]))
end LN3
