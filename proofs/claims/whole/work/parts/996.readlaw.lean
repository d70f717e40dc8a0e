/-! THE LAW's E: the class joins what it reads -/
theorem opT_lt (t : Tk) : opT t = 0 ∨ (4 ≤ opT t ∧ opT t ≤ 10) := by
  rcases opT_cases t with ⟨_, e⟩ | ⟨_, _, e⟩ | ⟨_, _, c3⟩
  · rw [e]; decide
  · rw [e]; decide
  · rcases c3 with ⟨_, e⟩ | ⟨_, e⟩ | ⟨_, e⟩ | ⟨_, e⟩ | ⟨_, e⟩ | ⟨_, _, _, _, _, e⟩ <;> rw [e] <;> decide
theorem opT_sort {t : Tk} (h : opT t ≠ 0) : t.2.1 ≠ 0 := by
  intro q
  refine h ?_
  unfold opT tW tS
  rw [q]
  rfl
theorem stl_stl {l m : Nat} (hm : m ≤ l) : ∀ (W : List Nat) (ops : List Op), stl m (stl l W ops).1 (stl l W ops).2 = stl m W ops
  | [], _ => rfl
  | x :: r, ops => by
    by_cases c : l ≤ lvK x
    · rw [stl, if_pos c, stl_s (show m ≤ lvK x by omega), stl_stl hm r]
    · rw [stl, if_neg c]
theorem stl_mem {l : Nat} : ∀ (W : List Nat) (ops : List Op), (∀ k ∈ W, 3 ≤ k ∧ k ≤ 11) → ∀ k ∈ (stl l W ops).1, 3 ≤ k ∧ k ≤ 11
  | [], _, h => h
  | x :: r, ops, h => by
    rw [stl]
    by_cases c : l ≤ lvK x
    · rw [if_pos c]; exact stl_mem r _ (fun k hk => h k (List.mem_cons_of_mem _ hk))
    · rw [if_neg c]; exact h
theorem wK_n0 {k : Nat} (h1 : 4 ≤ k) (h2 : k ≤ 10) : ¬ wK k = 0 := by
  have hc : k = 4 ∨ k = 5 ∨ k = 6 ∨ k = 7 ∨ k = 8 ∨ k = 9 ∨ k = 10 := by omega
  rcases hc with e | e | e | e | e | e | e <;> rw [e] <;> decide
section LWJ
variable {G : pm_G} {d : Nat} {h : pm_H} {tx : List Nat}
theorem lv_pos {k : Nat} (h1 : 4 ≤ k) (h2 : k ≤ 10) : 1 ≤ lvK k := by
  have hc : k = 4 ∨ k = 5 ∨ k = 6 ∨ k = 7 ∨ k = 8 ∨ k = 9 ∨ k = 10 := by omega
  rcases hc with e | e | e | e | e | e | e <;> rw [e] <;> decide
theorem s_readJoin {Q : Int32 → pm_H → Prop} {B w o : Nat} {W : List Nat} {ops : List Op} {ts : List Tk} (hB : B ≤ 1000) (hL : La h) (hC : LwC h B W ops w o false) (hf : FldC h (hdT ts)) (ho : TkO (hdT ts)) (hn : ∀ x, stJ W ops w o ts ≠ .inr (99, x)) (hnf : ¬ (o = 0 ∧ tS 59 (hdT ts) = true))
    (k1 : ∀ W' ops' w' o' due', stJ W ops w o ts = .inl (W', ops', w', o', due', ts.tail) → (hdT ts).2.1 ≠ 0 → ∀ h', FrW h h' → LwC h' (B + 1) W' ops' w' o' due' → Q 0 h')
    (k2 : ∀ n, stJ W ops w o ts = .inr (n, ts, []) → n < 10 → n ≠ 0 → ∀ h', FrW h h' → Q (nI n) h') : ci G (d + 4) m_X2_readJoin [.ref 56, .ref 36] h Q := by
  obtain ⟨a1, a2, a3, a4, a5, a6, a7⟩ := hL.lwr
  have hf0 := hf
  obtain ⟨f1, f2, f3, f4, f5, f6⟩ := hf
  obtain ⟨c1, c2, c3, c4, c5, c6, c7, c8, c9, c10, c11, c12, c13⟩ := id hC
  have hlv : lvT ts = lvK (opT (hdT ts)) := rfl
  generalize ht : hdT ts = t at *
  unfold stJ at hn k1 k2
  rw [ht, if_neg hnf] at hn k1 k2
  have e41 : ((if t.2.1 = 3 then nI (t.2.2.headD 0) else -1) = (41 : Int32)) ↔ tS 41 t = true := sgn_is ho (c := 41) (by decide)
  have to62 : ¬ (tS 41 t = true ∧ 0 < o) → Wp G (m_X2_readJoin, d + 3 + 1, 0, 0, fun v h1 => ∃ r, v = some (.int r) ∧ Q r h1) (0, 0) 62 [.ref 56, .ref 36, .null, .null] [] h := by
    intro n41
    rw [if_neg n41] at hn k1 k2
    refine x_X2_readJoin_62 ⟨a1, s_joiningSign (d := d + 2) hL hf0 ho ?_⟩
    rcases opT_lt t with z | ⟨z1, z2⟩
    · rw [if_pos z, if_pos rfl]
      rw [if_pos z] at k2
      exact ⟨_, rfl, k2 1 rfl (by decide) (by decide) h FrW.rfl'⟩
    · have z : ¬ opT t = 0 := by omega
      rw [if_neg z] at hn k1 k2
      rw [if_neg z, if_neg (wK_n0 z1 z2)]
      refine s_levelOf (d := d + 2) (by omega) (by omega) ?_
      have lp := lv_pos z1 z2
      have l4 := lvK_le (opT t)
      have s0 := opT_sort z
      rw [hlv] at hn k1 k2
      -- behind settling
      have last : ∀ h6, FrW h h6 → (∀ P, (∀ h', FrW h6 h' → LwC h' B (stl (lvK (opT t)) W ops).1 (stl (lvK (opT t)) W ops).2 w o false → P h') → cv G (d + 3) m_X2_settle [.ref 56, .ref 36, .int (nI (lvK (opT t)))] h6 P) → ¬ (lvK (opT t) = 2 ∧ lvK ((stl 3 W ops).1.headD 0) = 2) → (h6.1[56]? = some (0, 2)) ∧ cv G (d + 3) m_X2_settle [.ref 56, .ref 36, .int (nI (lvK (opT t)))] h6 (fun h12 => (h12.1[56]? = some (0, 2)) ∧ cv G (d + 3) m_X2_hold [.ref 56, .int (wK (opT t))] h12 fun h14 => (h14.1[56]? = some (0, 2)) ∧ ∀ h15 : pm_H, h15 = si h14 56 5 1 → ∃ r, (some (.int 0) : Option Value) = some (.int r) ∧ Q r h15) := by
        intro h6 hF6 hS nc
        rw [if_neg nc] at hn k1
        refine ⟨(hF6.1.la hL).lwr.1, hS _ (fun h7 hF7 hC7 => ?_)⟩
        have hL7 := hF7.1.la (hF6.1.la hL)
        obtain ⟨e1, e2, e3, e4, e5, e6, e7, e8, e9, e10, e11, e12, e13⟩ := id hC7
        have h60 : (stl (lvK (opT t)) W ops).1.length < 60 := by
          by_cases y : (stl (lvK (opT t)) W ops).1.length < 60
          · exact y
          · rw [if_neg y] at hn; exact absurd rfl (hn _)
        rw [if_pos h60] at k1
        generalize stl (lvK (opT t)) W ops = p at *
        refine ⟨hL7.lwr.1, s_hold (d := d + 1) hL7 e1 (by omega) ⟨hL7.lwr.1, ?_⟩⟩
        rintro _ rfl
        refine ⟨_, rfl, k1 _ _ _ _ _ rfl s0 _ (hF6.trans (hF7.trans ((FrW.wi (by omega)).trans ((FrW.wi (by omega)).trans (FrW.wi (by omega)))))) ⟨rfl, e2, e3, rfl, ⟨?_, e5.up (Nat.le_refl _)⟩, e6, e7, ?_, by rw [List.length_cons]; omega, by rw [List.length_cons]; omega, ?_, by omega, by omega⟩⟩
        · exact up1_at (gi h7 58) p.1.length (wK (opT t))
        · intro y hy
          rcases List.mem_cons.mp hy with e | e
          · rw [e]; omega
          · exact e8 y e
        · rw [nl, if_neg (wK_op lp).2]; omega
      by_cases c : lvK (opT t) = 2
      · rw [if_pos (show nI (lvK (opT t)) = 2 by rw [c]; rfl)]
        refine ⟨a1, s_settle (d := d) (B := B) (l := 3) (by omega) (by decide) (by decide) hL hC (fun h6 hF6 hC6 => ?_)⟩
        have hL6 := hF6.1.la hL
        obtain ⟨b1, b2, b3, b4, b5, b6, b7⟩ := hL6.lwr
        obtain ⟨e1, e2, e3, e4, e5, e6, e7, e8, e9, e10, e11, e12, e13⟩ := id hC6
        rw [b3, e1]
        refine ⟨b1, b4.1, row_at b4 ?_⟩
        have go2 : ∀ v : Int32, v = (if (stl 3 W ops).1 = [] then -1 else wK ((stl 3 W ops).1.headD 0)) → ci G (d + 3) m_X2_levelOf [.int v] h6 (fun r9 h10 => if r9 = 2 then (∃ r, (some (.int 1) : Option Value) = some (.int r) ∧ Q r h10) else ((h10.1[56]? = some (0, 2)) ∧ cv G (d + 3) m_X2_settle [.ref 56, .ref 36, .int (nI (lvK (opT t)))] h10 (fun h12 => (h12.1[56]? = some (0, 2)) ∧ cv G (d + 3) m_X2_hold [.ref 56, .int (wK (opT t))] h12 fun h14 => (h14.1[56]? = some (0, 2)) ∧ ∀ h15 : pm_H, h15 = si h14 56 5 1 → ∃ r, (some (.int 0) : Option Value) = some (.int r) ∧ Q r h15))) := by
          intro v hv
          have again : ∀ P, (∀ h', FrW h6 h' → LwC h' B (stl (lvK (opT t)) W ops).1 (stl (lvK (opT t)) W ops).2 w o false → P h') → cv G (d + 3) m_X2_settle [.ref 56, .ref 36, .int (nI (lvK (opT t)))] h6 P := fun P kP => s_settle (d := d) (B := B) (l := lvK (opT t)) (by omega) lp l4 hL6 hC6 (fun h7 q1 q2 => by
            rw [stl_stl (show lvK (opT t) ≤ 3 by omega)] at q2
            exact kP h7 q1 q2)
          by_cases en : (stl 3 W ops).1 = []
          · rw [if_pos en] at hv
            subst hv
            refine s_level1 (d := d + 2) ?_
            rw [if_neg (show ¬ (0 : Int32) = 2 by decide)]
            exact last h6 hF6 again (fun q => by rw [en] at q; exact absurd q.2 (by decide))
          · rw [if_neg en] at hv
            subst hv
            have hm : (stl 3 W ops).1.headD 0 ∈ (stl 3 W ops).1 := by
              cases hz : (stl 3 W ops).1 with
              | nil => exact absurd hz en
              | cons x r => exact List.mem_cons_self
            have hx := e8 _ hm
            refine s_levelOf (d := d + 2) hx.1 hx.2 ?_
            by_cases c2 : lvK ((stl 3 W ops).1.headD 0) = 2
            · rw [if_pos (show nI (lvK ((stl 3 W ops).1.headD 0)) = 2 by rw [c2]; rfl)]
              rw [if_pos ⟨c, c2⟩] at k2
              exact ⟨_, rfl, k2 1 rfl (by decide) (by decide) h6 hF6⟩
            · rw [if_neg (show ¬ nI (lvK ((stl 3 W ops).1.headD 0)) = 2 from fun q => c2 ((nI_inj (b := 2) (show lvK ((stl 3 W ops).1.headD 0) < 2 ^ 31 by have := lvK_le ((stl 3 W ops).1.headD 0); omega) (by decide)).mp q))]
              exact last h6 hF6 again (fun q => c2 q.2)
        refine go2 _ ?_
        cases hz : (stl 3 W ops).1 with
        | nil => rw [if_pos rfl]; exact rd_m1 _ _
        | cons x r =>
          rw [hz] at e5 e9
          rw [if_neg (by intro q; cases q), List.length_cons, show (1 : Int32) = nI 1 from rfl, pk_sub (by omega), Nat.add_sub_cancel, rd_in (by rw [List.length_cons] at e9; omega) (by decide)]
          exact e5.1
      · rw [if_neg (show ¬ nI (lvK (opT t)) = 2 from fun q => c ((nI_inj (b := 2) (show lvK (opT t) < 2 ^ 31 by omega) (by decide)).mp q))]
        exact last h FrW.rfl' (fun P kP => s_settle (d := d) (B := B) (l := lvK (opT t)) (by omega) lp l4 hL hC kP) (fun q => c q.1)
  refine ci_wp rfl (Nat.le_of_ble_eq_true rfl) rfl (x_X2_readJoin ⟨a1, ?_⟩)
  rw [a2]
  refine ⟨hL.tap.1, ?_⟩
  rw [f6]
  by_cases p : tS 41 t = true
  · rw [if_pos (e41.mpr p), c3]
    by_cases o0 : 0 < o
    · rw [if_neg (show ¬ nI o ≤ 0 from fun q => by have := (nI_leI (b := 0) (show o < 2 ^ 31 by omega) (by decide)).mp q; omega)]
      rw [if_pos ⟨p, o0⟩] at hn k1
      have s3 : t.2.1 = 3 := by unfold tS at p; rw [Bool.and_eq_true, decide_eq_true_iff] at p; exact p.1
      refine s_settle (d := d) (B := B) (l := 1) (by omega) (by decide) (by decide) hL hC (fun h6 hF6 hC6 => ?_)
      have hL6 := hF6.1.la hL
      obtain ⟨e1, e2, e3, e4, e5, e6, e7, e8, e9, e10, e11, e12, e13⟩ := id hC6
      have h11 : (stl 1 W ops).1.headD 0 = 11 := by
        by_cases y : (stl 1 W ops).1.headD 0 = 11
        · exact y
        · rw [if_neg y] at hn; exact absurd rfl (hn _)
      rw [if_pos h11] at k1
      generalize stl 1 W ops = p at *
      obtain ⟨P, O⟩ := p
      cases P with
      | nil => cases h11
      | cons x r =>
        have h11 : x = 11 := h11
        subst h11
        have e9 : r.length + 1 ≤ 60 := e9
        have e10 : r.length + 1 + O.length ≤ B := e10
        have e1 : gi h6 56 2 = nI (r.length + 1) := e1
        have e11 : nl (11 :: r) ≤ w := e11
        rw [nl, if_pos (Or.inr rfl)] at e11
        refine ⟨hL6.lwr.1, ?_⟩
        rintro _ rfl _ rfl _ rfl
        rw [e1, show gi (si h6 56 2 (nI (r.length + 1) - 1)) 56 4 = nI o from e3, show gi (si (si h6 56 2 (nI (r.length + 1) - 1)) 56 4 (nI o - 1)) 56 3 = nI w from e2, show (1 : Int32) = nI 1 from rfl, pk_sub (show 1 ≤ r.length + 1 by omega), pk_sub (show 1 ≤ o by omega), pk_sub (show 1 ≤ w by omega), Nat.add_sub_cancel]
        have hF9 : FrW h6 (si (si (si h6 56 2 (nI r.length)) 56 4 (nI (o - 1))) 56 3 (nI (w - 1))) := (FrW.wi (by omega)).trans ((FrW.wi (by omega)).trans (FrW.wi (by omega)))
        refine s_endPart (d := d) (B := B) (W := r) (ops := O) (w := w - 1) (o := o - 1) (due := false) (by omega) (hF9.1.la hL6) ⟨rfl, rfl, rfl, e4, e5.2, e6, e7, fun y hy => e8 y (List.mem_cons_of_mem _ hy), by omega, by omega, by omega, by omega, by omega⟩ (fun h' q1 q2 => ?_)
        refine ⟨_, rfl, k1 _ _ _ _ _ rfl (by omega) h' (hF6.trans (hF9.trans q1)) ?_⟩
        obtain ⟨r1, r2, r3, r4, r5, r6, r7, r8, r9, r10, r11, r12, r13⟩ := q2
        exact ⟨r1, r2, r3, r4, r5, r6, r7, r8, r9, Nat.le_succ_of_le r10, r11, r12, by omega⟩
    · rw [if_pos (show nI o ≤ 0 by rw [show o = 0 by omega]; exact Int32.le_refl _)]
      exact to62 (fun q => o0 q.2)
  · rw [if_neg (fun q => p (e41.mp q))]
    exact to62 (fun q => p q.1)
theorem s_lawLoop {post : pm_PT} {h0 : pm_H} (hO : TxO tx) (hL0 : La h0) (hT0 : TxC h0 tx) {R : Out} (hR : R.1 ≠ 99)
    (fin : ∀ h', FrS lwS h0 h' → CurC h' tx R.2.1 → R.1 < 10 → (R.1 = 0 → R.2.2.length ≤ 1000 ∧ gi h' 36 1 = nI R.2.2.length ∧ CO (gi h' 38) 0 R.2.2) → post (some (.int (nI R.1))) h') :
    ∀ (n : Nat) (W : List Nat) (ops : List Op) (w o : Nat) (due : Bool) (ts : List Tk) (B i : Nat) (h : pm_H), go n (W, ops, w, o, due, ts) = some R → FrS lwS h0 h → LwC h B W ops w o due → CurC h tx ts → TsO ts → B + ts.length ≤ 1001 → i + ts.length ≤ 1001 → Wp G (m_X2_readLaw, d + 5, 0, 0, post) (0, 0) 22 [.ref 56, .ref 36, .int (nI i), .null] [] h
  | 0, _, _, _, _, _, _, _, _, _, hg, _, _, _, _, _, _ => by cases hg
  | n + 1, W, ops, w, o, due, ts, B, i, h, hg, hF, hC, hcur, hts, hb, hi => by
    have hL := hF.la hL0
    have hT : TxC h tx := hF.tx (by unfold lwS; omega) hT0
    obtain ⟨r, er, er2, hf⟩ := hcur.at
    obtain ⟨ht1, ht2, ht3⟩ := hts.at
    obtain ⟨a1, a2, a3, a4, a5, a6, a7⟩ := hL.lwr
    obtain ⟨c1, c2, c3, c4, c5, c6, c7, c8, c9, c10, c11, c12, c13⟩ := id hC
    have lr : ts.length = ts.tail.length + 1 := by rw [List.length_tail]; omega
    refine x_X2_readLaw_22 ?_
    rw [if_neg (show ¬ (1000 : Int32) < nI i from fun q => by have := (nI_ltI (show 1000 < 2 ^ 31 by decide) (show i < 2 ^ 31 by omega)).mp q; omega)]
    refine ⟨a1, ?_⟩
    rw [c4]
    -- one TOKEN further
    have nx : ∀ (W' : List Nat) (ops' : List Op) (w' o' : Nat) (due' : Bool), go n (W', ops', w', o', due', ts.tail) = some R → (hdT ts).2.1 ≠ 0 → ∀ h', FrW h h' → LwC h' (B + 1) W' ops' w' o' due' → (h'.1[56]? = some (0, 2)) ∧ (h'.1[gp h' 56 0]? = some (0, 7)) ∧ cv G (d + 4) m_X7_next [.ref (gp h' 56 0)] h' (fun h8 => Wp G (m_X2_readLaw, d + 4 + 1, 0, 0, post) (0, 0) 22 [.ref 56, .ref 36, .int (nI i + 1), .null] [] h8) := by
      intro W' ops' w' o' due' hg' h0' h' hF' hC'
      have hL' := hF'.1.la hL
      rw [hL'.lwr.2.1]
      have cur' := hF'.cur hcur
      rw [er] at cur'
      refine ⟨hL'.lwr.1, hL'.tap.1, s_next (d := d + 1) hL' hO (hF'.1.tx (by unfold lwS; omega) hT) cur' h0' (fun h8 f8 c8' => ?_)⟩
      rw [nI_1]
      have lp : 0 < ts.tail.length := (ht2 h0').at.2.2
      refine s_lawLoop hO hL0 hT0 hR fin n W' ops' w' o' due' ts.tail (B + 1) (i + 1) h8 hg' (hF.trans (hF'.1.trans (f8.fr (Or.inl rfl)))) ?_ (by rw [er2]; exact c8') (ht2 h0') (by omega) (by omega)
      obtain ⟨q1, q2, q3, q4, q5, q6, q7, q8, q9, q10, q11, q12, q13⟩ := hC'
      have x56 := f8.2.1 56 (by decide)
      have x58 := f8.2.1 58 (by decide)
      have x36 := f8.2.1 36 (by decide)
      have x38 := f8.2.1 38 (by decide)
      exact ⟨(congrFun x56 2).trans q1, (congrFun x56 3).trans q2, (congrFun x56 4).trans q3, (congrFun x56 5).trans q4, x58 ▸ q5, (congrFun x36 1).trans q6, x38 ▸ q7, q8, q9, q10, q11, q12, q13⟩
    have stay : ∀ m, R = (m, ts, []) → m < 10 → m ≠ 0 → ∀ h', FrW h h' → post (some (.int (nI m))) h' := by
      intro m eR m10 m0 h' hF'
      have := fin h' (hF.trans hF'.1) (by rw [eR]; exact hF'.cur hcur) (by rw [eR]; exact m10) (fun q => by rw [eR] at q; exact absurd q m0)
      rw [eR] at this
      exact this
    -- a part or a sign that joins
    have to63 : ¬ (due = false ∧ o = 0 ∧ tS 59 (hdT ts) = true) → Wp G (m_X2_readLaw, d + 4 + 1, 0, 0, post) (0, 0) 63 [.ref 56, .ref 36, .int (nI i), .null] [] h := by
      intro nf
      refine x_X2_readLaw_63 ⟨a1, ?_⟩
      rw [c4]
      rw [go] at hg
      have hg : (match stM (W, ops, w, o, due, ts) with
        | .inl s' => go n s'
        | .inr r => some r) = some R := hg
      cases due with
      | true =>
        have hg : (match stD W ops w o ts with
          | .inl s' => go n s'
          | .inr r => some r) = some R := hg
        rw [if_neg (show ¬ b2i true = 0 by decide)]
        have ns : ∀ x, stD W ops w o ts ≠ .inr (99, x) := by
          intro x q
          rw [q] at hg
          cases hg
          exact hR rfl
        refine s_readPart (d := d) (by omega) (fun z => by have := (ht2 z).at.2.2; omega) hL hC hf ht1 ns (fun W' ops' w' o' due' e h0' h' hF' hC' => ?_) (fun m e m10 m0 => ?_)
        · rw [e] at hg
          rw [if_pos rfl]
          exact nx W' ops' w' o' due' hg h0' h' hF' hC'
        · rw [e] at hg
          have hg : some (m, ts, []) = some R := hg
          cases hg
          rw [if_neg (show ¬ nI m = 0 from fun q => m0 ((nI_inj (b := 0) (show m < 2 ^ 31 by omega) (by decide)).mp q))]
          exact stay m rfl m10 m0 h FrW.rfl'
      | false =>
        have hg : (match stJ W ops w o ts with
          | .inl s' => go n s'
          | .inr r => some r) = some R := hg
        rw [if_pos (show b2i false = 0 from rfl)]
        have ns : ∀ x, stJ W ops w o ts ≠ .inr (99, x) := by
          intro x q
          rw [q] at hg
          cases hg
          exact hR rfl
        refine s_readJoin (d := d) (by omega) hL hC hf ht1 ns (fun q => nf ⟨rfl, q⟩) (fun W' ops' w' o' due' e h0' h' hF' hC' => ?_) (fun m e m10 m0 h' hF' => ?_)
        · rw [e] at hg
          rw [if_pos rfl]
          exact nx W' ops' w' o' due' hg h0' h' hF' hC'
        · rw [e] at hg
          have hg : some (m, ts, []) = some R := hg
          cases hg
          rw [if_neg (show ¬ nI m = 0 from fun q => m0 ((nI_inj (b := 0) (show m < 2 ^ 31 by omega) (by decide)).mp q))]
          exact stay m rfl m10 m0 h' hF'
    cases due with
    | true =>
      rw [if_neg (show ¬ b2i true = 0 by decide)]
      exact to63 (fun q => by cases q.1)
    | false =>
      rw [if_pos (show b2i false = 0 from rfl), c3, a2]
      by_cases o0 : o = 0
      · subst o0
        rw [if_pos (show nI 0 = 0 from rfl)]
        refine ⟨hL.tap.1, ?_⟩
        have e59 : ((if (hdT ts).2.1 = 3 then nI ((hdT ts).2.2.headD 0) else -1) = (59 : Int32)) ↔ tS 59 (hdT ts) = true := sgn_is ht1 (c := 59) (by decide)
        rw [hf.2.2.2.2.2]
        by_cases c : tS 59 (hdT ts) = true
        · rw [if_pos (e59.mpr c)]
          have eJ : stJ W ops w 0 ts = .inr (0, ts, (stl 1 W ops).2) := by unfold stJ; rw [if_pos ⟨rfl, c⟩]
          rw [go] at hg
          have hg : (match stJ W ops w 0 ts with
            | .inl s' => go n s'
            | .inr r => some r) = some R := hg
          rw [eJ] at hg
          have hg : some (0, ts, (stl 1 W ops).2) = some R := hg
          cases hg
          refine s_settle (d := d + 1) (B := B) (l := 1) (by omega) (by decide) (by decide) hL hC (fun h6 hF6 hC6 => ?_)
          obtain ⟨e1, e2, e3, e4, e5, e6, e7, e8, e9, e10, e11, e12, e13⟩ := hC6
          exact fin h6 (hF.trans hF6.1) (hF6.cur hcur) (show (0 : Nat) < 10 by decide) (fun _ => ⟨show (stl 1 W ops).2.length ≤ 1000 by omega, e6, e7⟩)
        · rw [if_neg (fun q => c (e59.mp q))]
          exact to63 (fun q => c q.2.2)
      · rw [if_neg (show ¬ nI o = 0 from fun q => o0 ((nI_inj (b := 0) (show o < 2 ^ 31 by omega) (by decide)).mp q))]
        exact to63 (fun q => o0 q.2.1)
theorem s_readLaw {Q : Int32 → pm_H → Prop} {ts : List Tk} (hO : TxO tx) (hL : La h) (hT : TxC h tx) (hcur : CurC h tx ts) (hts : TsO ts) (hl : ts.length ≤ 1001) (h36 : gi h 36 1 = 0)
    (k : ∀ h', FrS lwS h h' → CurC h' tx (lawE ts).2.1 → (lawE ts).1 < 10 → ((lawE ts).1 = 0 → (lawE ts).2.2.length ≤ 1000 ∧ gi h' 36 1 = nI (lawE ts).2.2.length ∧ CO (gi h' 38) 0 (lawE ts).2.2) → Q (nI (lawE ts).1) h') (hne : (lawE ts).1 ≠ 99) : ci G (d + 5) m_X2_readLaw [.ref 56, .ref 36] h Q := by
  refine ci_wp rfl (Nat.le_of_ble_eq_true rfl) rfl (x_X2_readLaw ⟨hL.lwr.1, ?_⟩)
  rintro _ rfl _ rfl _ rfl _ rfl
  obtain ⟨n, hg⟩ := law_M ts
  have hF : FrW h (si (si (si (si h 56 2 0) 56 3 0) 56 4 0) 56 5 1) := (FrW.wi (by omega)).trans ((FrW.wi (by omega)).trans ((FrW.wi (by omega)).trans (FrW.wi (by omega))))
  exact s_lawLoop (d := d) (post := fun v h1 => ∃ r, v = some (.int r) ∧ Q r h1) hO hL hT hne (fun h' a b c e => ⟨_, rfl, k h' a b c e⟩) n [] [] 0 0 true ts 0 0 _ hg hF.1 ⟨rfl, rfl, rfl, rfl, trivial, h36, trivial, fun y hy => (by cases hy), by decide, by decide, by decide, by decide, by decide⟩ (hF.cur hcur) hts (by omega) (by omega)
end LWJ
