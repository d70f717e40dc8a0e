/-! THE LAW's E: the class reads it -/
def wcl (t : Tk) : Nat := if t.2.1 = 1 then wix t.2.2 else 0
def fcN (i : Nat) : Option Nat := if i = 19 then some 0 else if i = 20 then some 1 else if i = 6 then some 2 else if i = 21 then some 3 else none
theorem tW_w {w : Nat} {t : Tk} (hw : 0 < w) : tW w t = decide (wcl t = w) := by
  unfold tW wcl
  by_cases c : t.2.1 = 1
  · rw [decide_eq_true c, if_pos c, Bool.true_and]
  · rw [decide_eq_false c, if_neg c, Bool.false_and, decide_eq_false (by omega)]
theorem fcT_n (t : Tk) : fcT t = fcN (wcl t) := by
  unfold fcT fcN
  rw [tW_w (by decide), tW_w (by decide), tW_w (by decide), tW_w (by decide)]
  simp only [decide_eq_true_iff]
def fcv (o : Option Nat) : Int32 := match o with
  | none => 0
  | some j => cO (2, j)
theorem wd_fact : ∀ i ∈ List.range 22, pm_wd[i]? = some (pm_wd.getD i ("", 0, 0, 0, 0)) ∧ (pm_wd.getD i ("", 0, 0, 0, 0)).2.2.2.2 = fcv (fcN i) := by decide +kernel
theorem wcl_lt (t : Tk) : wcl t < 22 := by
  unfold wcl
  split
  · exact wix_lt _
  · decide
/-- TOKENS as they come -/
def TkO (t : Tk) : Prop := (t.2.1 = 1 → ltr t.2.2 ∧ t.2.2.length ≤ 8) ∧ (t.2.1 = 2 → nmv t.2.2 < 10000) ∧ (t.2.1 = 3 → t.2.2.headD 0 < 200) ∧ t.1 ≤ 1000 ∧ t.2.1 ≤ 4
def TsO : List Tk → Prop
  | [] => False
  | t :: r => TkO t ∧ (t.2.1 ≠ 0 → TsO r)
theorem nmv_lt : ∀ l : List Nat, (∀ c ∈ l, 48 ≤ c ∧ c ≤ 57) → nmv l.reverse < 10 ^ l.length
  | [], _ => by decide
  | c :: r, h => by
    have ih := nmv_lt r (fun x hx => h x (List.mem_cons_of_mem _ hx))
    have hc := h c List.mem_cons_self
    rw [List.reverse_cons, nmv_s, List.length_cons, Nat.pow_succ]
    omega
theorem tkA_ok {tx : List Nat} {b : Nat} (hO : TxO tx) (h : b < tx.length) : TkO (tkA tx b).1 := by
  have hl := hO.1
  unfold tkA
  split
  next c =>
    obtain ⟨r1, r2, r3, r4⟩ := run_ok (p := leA tx) (tx.length - b) b
    refine ⟨fun q => ⟨subL_ltr r3, ?_⟩, fun q => ?_, fun q => ?_, show b ≤ 1000 by omega, by show (if _ then _ else _) ≤ 4; split <;> decide⟩
    · have q : (if lE tx b - b ≤ 8 then 1 else 4) = 1 := q
      rw [subL_len]
      by_cases c8 : lE tx b - b ≤ 8
      · exact c8
      · rw [if_neg c8] at q; cases q
    · have q : (if lE tx b - b ≤ 8 then 1 else 4) = 2 := q
      split at q <;> cases q
    · have q : (if lE tx b - b ≤ 8 then 1 else 4) = 3 := q
      split at q <;> cases q
  next c =>
    split
    next c2 =>
      obtain ⟨r1, r2, r3, r4⟩ := run_ok (p := diA tx) (tx.length - b) b
      refine ⟨fun q => ?_, fun q => ?_, fun q => ?_, show b ≤ 1000 by omega, by show (if _ then _ else _) ≤ 4; split <;> decide⟩
      · have q : (if dE tx b - b ≤ 4 then 2 else 4) = 1 := q
        split at q <;> cases q
      · have q : (if dE tx b - b ≤ 4 then 2 else 4) = 2 := q
        by_cases c4 : dE tx b - b ≤ 4
        · have hd : ∀ c ∈ (subL tx b (dE tx b)).reverse, 48 ≤ c ∧ c ≤ 57 := fun c hc => subL_dig r3 c (List.mem_reverse.mp hc)
          have n := nmv_lt _ hd
          rw [List.reverse_reverse, List.length_reverse, subL_len] at n
          exact Nat.lt_of_lt_of_le n (Nat.pow_le_pow_right (by decide) c4)
        · rw [if_neg c4] at q; cases q
      · have q : (if dE tx b - b ≤ 4 then 2 else 4) = 3 := q
        split at q <;> cases q
    next c2 =>
      refine ⟨fun q => ?_, fun q => ?_, fun q => ?_, show b ≤ 1000 by omega, by show (if _ then _ else _) ≤ 4; split <;> decide⟩
      · have q : (if sgnB (chA tx b) = true then 3 else 4) = 1 := q
        split at q <;> cases q
      · have q : (if sgnB (chA tx b) = true then 3 else 4) = 2 := q
        split at q <;> cases q
      · show chA tx b < 200
        have := hO.ch h
        omega
theorem tks_ok {tx : List Nat} (hO : TxO tx) : ∀ (n a : Nat), a ≤ tx.length → tx.length < n + a → TsO (tks tx n a) ∧ (tks tx n a).length + a ≤ tx.length + 1
  | 0, a, ha, hn => by omega
  | n + 1, a, ha, hn => by
    have hl := hO.1
    have h1 : a ≤ bE tx a := (run_ok (p := blA tx) (tx.length - a) a).1
    rw [tks]
    by_cases c : bE tx a < tx.length
    · rw [if_pos c]
      obtain ⟨e1, e2, e3⟩ := tkA_end c
      obtain ⟨i1, i2⟩ := tks_ok hO n (tkA tx (bE tx a)).2 e2 (by omega)
      refine ⟨⟨tkA_ok hO c, fun _ => i1⟩, ?_⟩
      rw [List.length_cons]; omega
    · rw [if_neg c]
      refine ⟨⟨⟨fun q => ?_, fun q => ?_, fun q => ?_, hl, Nat.zero_le _⟩, fun q => absurd rfl q⟩, by show 1 + a ≤ _; omega⟩
      · cases q
      · cases q
      · cases q
theorem TT_ok {tx : List Nat} (hO : TxO tx) : TsO (TT tx 0) ∧ (TT tx 0).length ≤ tx.length + 1 := by
  have := hO.1
  obtain ⟨a, b⟩ := tks_ok hO 1001 0 (Nat.zero_le _) (by omega)
  exact ⟨a, b⟩
theorem CurC.at {h : pm_H} {tx : List Nat} {ts : List Tk} (hC : CurC h tx ts) : ∃ r, ts = hdT ts :: r ∧ ts.tail = r ∧ FldC h (hdT ts) := by
  obtain ⟨t, r, a, e, f, -⟩ := hC
  exact ⟨r, by rw [e]; rfl, by rw [e]; rfl, by rw [e]; exact f⟩
theorem TsO.at {ts : List Tk} (h : TsO ts) : TkO (hdT ts) ∧ ((hdT ts).2.1 ≠ 0 → TsO ts.tail) ∧ 0 < ts.length := by
  cases ts with
  | nil => exact absurd h id
  | cons t r => exact ⟨h.1, h.2, Nat.succ_pos _⟩
/-- one frame for all that reads -/
def FrS (S : Nat → Prop) (h h' : pm_H) : Prop := h'.1 = h.1 ∧ (∀ a, ¬ S a → gi h' a = gi h a) ∧ gi h' 1 1 = gi h 1 1 ∧ (∀ a, ¬ S a → gj h' a = gj h a) ∧ (∀ a, ¬ S a → gf h' a = gf h a) ∧ ∀ a k, ¬ (a = 1 ∧ k = 5) → gp h' a k = gp h a k
theorem FrS.rfl' {S : Nat → Prop} {h : pm_H} : FrS S h h := ⟨rfl, fun _ _ => rfl, rfl, fun _ _ => rfl, fun _ _ => rfl, fun _ _ _ => rfl⟩
theorem FrS.trans {S : Nat → Prop} {h h1 h2 : pm_H} (a : FrS S h h1) (b : FrS S h1 h2) : FrS S h h2 := ⟨b.1.trans a.1, fun x hx => (b.2.1 x hx).trans (a.2.1 x hx), b.2.2.1.trans a.2.2.1, fun x hx => (b.2.2.2.1 x hx).trans (a.2.2.2.1 x hx), fun x hx => (b.2.2.2.2.1 x hx).trans (a.2.2.2.2.1 x hx), fun x k hx => (b.2.2.2.2.2 x k hx).trans (a.2.2.2.2.2 x k hx)⟩
theorem FrS.la {S : Nat → Prop} {h h' : pm_H} (f : FrS S h h') (hL : La h) : La h' := ⟨f.1.trans hL.1, fun a k hx => (f.2.2.2.2.2 a k hx).trans (hL.2 a k hx)⟩
theorem FrS.tx {S : Nat → Prop} {h h' : pm_H} {tx : List Nat} (f : FrS S h h') (hS : ¬ S 2) (hT : TxC h tx) : TxC h' tx := ⟨f.2.2.1.trans hT.1, fun j hj => (congrFun (f.2.1 2 hS) j).trans (hT.2 j hj)⟩
theorem FrS.mono {S S' : Nat → Prop} {h h' : pm_H} (f : FrS S h h') (i : ∀ a, S a → S' a) : FrS S' h h' := ⟨f.1, fun x hx => f.2.1 x (fun q => hx (i x q)), f.2.2.1, fun x hx => f.2.2.2.1 x (fun q => hx (i x q)), fun x hx => f.2.2.2.2.1 x (fun q => hx (i x q)), f.2.2.2.2.2⟩
theorem FrT.fr {S : Nat → Prop} {h h' : pm_H} (f : FrT h h') (hS : S 1) : FrS S h h' := ⟨f.1, fun a ha => f.2.1 a (fun q => ha (q ▸ hS)), f.2.2.1, fun a ha => f.2.2.2.1 a (fun q => ha (q ▸ hS)), fun a _ => congrFun f.2.2.2.2.1 a, f.2.2.2.2.2⟩
theorem FrS.wi {S : Nat → Prop} {h : pm_H} {a k : Nat} {v : Int32} (ha : S a) (h1 : a ≠ 1) : FrS S h (si h a k v) := ⟨rfl, fun b hb => pm_u_ne _ _ _ (fun q => hb (q ▸ ha)), by
  show pm_u (gi h) a k v 1 1 = _
  rw [pm_u_ne _ _ _ (fun q => h1 q.symm)], fun _ _ => rfl, fun _ _ => rfl, fun _ _ _ => rfl⟩
/-- all but the TAPE's own is written: the TOKEN stays -/
theorem CurC.keep {h h' : pm_H} {tx : List Nat} {ts : List Tk} (hC : CurC h tx ts) (e1 : gi h' 1 = gi h 1) (e2 : gp h' 1 = gp h 1) (e3 : gj h' 1 = gj h 1) : CurC h' tx ts := by
  obtain ⟨t, r, a, e, f, c1, c2, c3⟩ := hC
  refine ⟨t, r, a, e, ?_, (congrFun e1 2).trans c1, c2, c3⟩
  obtain ⟨f1, f2, f3, f4, f5, f6⟩ := f
  exact ⟨(congrFun e1 3).trans f1, (congrFun e1 4).trans f2, (congrFun e2 5).trans f3, fun q => (congrFun e3 6).trans (f4 q), (congrFun e1 7).trans f5, (congrFun e1 8).trans f6⟩
def lwS (a : Nat) : Prop := a = 1 ∨ a = 36 ∨ a = 38 ∨ a = 56 ∨ a = 58
def FrW (h h' : pm_H) : Prop := FrS lwS h h' ∧ gi h' 1 = gi h 1 ∧ gp h' = gp h ∧ gj h' = gj h
theorem FrW.rfl' {h : pm_H} : FrW h h := ⟨FrS.rfl', rfl, rfl, rfl⟩
theorem FrW.trans {h h1 h2 : pm_H} (a : FrW h h1) (b : FrW h1 h2) : FrW h h2 := ⟨a.1.trans b.1, b.2.1.trans a.2.1, b.2.2.1.trans a.2.2.1, b.2.2.2.trans a.2.2.2⟩
theorem FrW.wi {h : pm_H} {a k : Nat} {v : Int32} (ha : a = 36 ∨ a = 38 ∨ a = 56 ∨ a = 58) : FrW h (si h a k v) := ⟨FrS.wi (Or.inr ha) (by omega), by
  show pm_u (gi h) a k v 1 = _
  rw [pm_u_ne _ _ _ (by omega)], rfl, rfl⟩
theorem FrW.cur {h h' : pm_H} {tx : List Nat} {ts : List Tk} (f : FrW h h') (hC : CurC h tx ts) : CurC h' tx ts := hC.keep f.2.1 (congrFun f.2.2.1 1) (congrFun f.2.2.2 1)
theorem La.lwr {h : pm_H} (hL : La h) : h.1[56]? = some (0, 2) ∧ gp h 56 0 = 1 ∧ gp h 56 1 = 57 ∧ Ro h 57 58 64 ∧ h.1[36]? = some (0, 1) ∧ gp h 36 0 = 37 ∧ Ro h 37 38 1000 := ⟨hL.k (by decide +kernel), hL.p (by decide +kernel) (by omega), hL.p (by decide +kernel) (by omega), hL.ro (by decide +kernel) (by decide +kernel) (by decide +kernel) (by decide), hL.k (by decide +kernel), hL.p (by decide +kernel) (by omega), hL.ro (by decide +kernel) (by decide +kernel) (by decide +kernel) (by decide)⟩
def wK (k : Nat) : Int32 := if k = 11 then -6 else cO (k, 0)
def SW (z : Nat → Int32) : List Nat → Prop
  | [] => True
  | k :: r => z r.length = wK k ∧ SW z r
theorem SW.up {z : Nat → Int32} {v : Int32} {k : Nat} : ∀ {W : List Nat}, SW z W → W.length ≤ k → SW (up1 z k v) W
  | [], _, _ => trivial
  | x :: r, ⟨h1, h2⟩, hk => by
    rw [List.length_cons] at hk
    exact ⟨(up1_ne _ _ (by omega)).trans h1, h2.up (by omega)⟩
theorem CO.up {c : Nat → Int32} {v : Int32} {n : Nat} : ∀ {ops : List Op} {i : Nat}, CO c i ops → i + ops.length ≤ n → CO (up1 c n v) i ops
  | [], _, _, _ => trivial
  | o :: r, i, ⟨h1, h2⟩, hk => by
    rw [List.length_cons] at hk
    exact ⟨(up1_ne _ _ (by omega)).trans h1, h2.up (by omega)⟩
theorem CO.snoc {c : Nat → Int32} {o : Op} : ∀ {ops : List Op} {i : Nat}, CO c i ops → c (i + ops.length) = cO o → CO c i (ops ++ [o])
  | [], i, _, h => ⟨h, trivial⟩
  | x :: r, i, ⟨h1, h2⟩, h => ⟨h1, CO.snoc h2 (by rw [List.length_cons] at h; rw [show i + 1 + r.length = i + (r.length + 1) by omega]; exact h)⟩
def nl : List Nat → Nat
  | [] => 0
  | k :: r => (if k = 3 ∨ k = 11 then 1 else 0) + nl r
def LwC (h : pm_H) (B : Nat) (W : List Nat) (ops : List Op) (w o : Nat) (due : Bool) : Prop :=
  gi h 56 2 = nI W.length ∧ gi h 56 3 = nI w ∧ gi h 56 4 = nI o ∧ gi h 56 5 = b2i due ∧ SW (gi h 58) W ∧ gi h 36 1 = nI ops.length ∧ CO (gi h 38) 0 ops ∧ (∀ k ∈ W, 3 ≤ k ∧ k ≤ 11) ∧ W.length ≤ 60 ∧ W.length + ops.length ≤ B ∧ nl W ≤ w ∧ w ≤ 5 ∧ o ≤ B
section LWR
variable {G : pm_G} {d : Nat} {h : pm_H} {tx : List Nat}
theorem s_lawAdd {n : Nat} {v : Int32} {Q : pm_H → Prop} (hL : La h) (h1 : gi h 36 1 = nI n) (hn : n < 1000) (k : Q (si (si h 38 n v) 36 1 (nI (n + 1)))) : cv G (d + 2) m_X1_add [.ref 36, .int v] h Q := by
  obtain ⟨-, -, -, -, a1, a2, a3⟩ := hL.lwr
  refine cv_wp rfl (Nat.le_of_ble_eq_true rfl) rfl (x_X1_add ⟨a1, ?_⟩)
  rw [a2]
  refine ⟨a3.1, row_set a3 ?_⟩
  rw [h1, wr_in hn (by decide)]
  refine ⟨a1, ?_⟩
  rw [show gi (sm h (pm_u (gi h) 38 n v)) 36 1 = nI n from (congrFun (pm_u_ne (gi h) n v (show 36 ≠ 38 by decide)) 1).trans h1, nI_1]
  refine j_min ⟨a1, ?_⟩
  rintro _ rfl
  rw [if_neg (show ¬ (1000 : Int32) < nI (n + 1) from fun q => by have := (nI_ltI (show 1000 < 2 ^ 31 by decide) (show n + 1 < 2 ^ 31 by omega)).mp q; omega)]
  exact ⟨rfl, k⟩
theorem s_levelOf {k : Nat} {Q : Int32 → pm_H → Prop} (hk : 3 ≤ k) (hk2 : k ≤ 11) (w : Q (nI (lvK k)) h) : ci G (d + 1) m_X2_levelOf [.int (wK k)] h Q := by
  refine ci_wp rfl (Nat.le_of_ble_eq_true rfl) rfl (x_X2_levelOf ?_)
  have hc : k = 3 ∨ k = 4 ∨ k = 5 ∨ k = 6 ∨ k = 7 ∨ k = 8 ∨ k = 9 ∨ k = 10 ∨ k = 11 := by omega
  rcases hc with e | e | e | e | e | e | e | e | e <;> subst e
  · rw [show wK 3 = -7 from rfl, if_neg (by decide), if_neg (by decide), if_neg (by decide), if_neg (by decide), if_neg (by decide), if_neg (by decide), if_neg (by decide)]; exact ⟨_, rfl, w⟩
  · rw [show wK 4 = -12 from rfl, if_neg (by decide), if_neg (by decide), if_pos rfl]; exact ⟨_, rfl, w⟩
  · rw [show wK 5 = -13 from rfl, if_neg (by decide), if_pos rfl]; exact ⟨_, rfl, w⟩
  · rw [show wK 6 = -14 from rfl, if_pos rfl]; exact ⟨_, rfl, w⟩
  · rw [show wK 7 = -10 from rfl, if_neg (by decide), if_neg (by decide), if_neg (by decide), if_neg (by decide), if_pos rfl]; exact ⟨_, rfl, w⟩
  · rw [show wK 8 = -11 from rfl, if_neg (by decide), if_neg (by decide), if_neg (by decide), if_pos rfl]; exact ⟨_, rfl, w⟩
  · rw [show wK 9 = -8 from rfl, if_neg (by decide), if_neg (by decide), if_neg (by decide), if_neg (by decide), if_neg (by decide), if_neg (by decide), if_pos rfl]; exact ⟨_, rfl, w⟩
  · rw [show wK 10 = -9 from rfl, if_neg (by decide), if_neg (by decide), if_neg (by decide), if_neg (by decide), if_neg (by decide), if_pos rfl]; exact ⟨_, rfl, w⟩
  · rw [show wK 11 = -6 from rfl, if_neg (by decide), if_neg (by decide), if_neg (by decide), if_neg (by decide), if_neg (by decide), if_neg (by decide), if_neg (by decide)]; exact ⟨_, rfl, w⟩
theorem s_level1 {Q : Int32 → pm_H → Prop} (w : Q 0 h) : ci G (d + 1) m_X2_levelOf [.int (-1)] h Q := by
  refine ci_wp rfl (Nat.le_of_ble_eq_true rfl) rfl (x_X2_levelOf ?_)
  rw [if_neg (by decide), if_neg (by decide), if_neg (by decide), if_neg (by decide), if_neg (by decide), if_neg (by decide), if_neg (by decide)]; exact ⟨_, rfl, w⟩
theorem wK_op {k : Nat} (h : 1 ≤ lvK k) : wK k = cO (k, 0) ∧ ¬ (k = 3 ∨ k = 11) := by
  refine ⟨if_neg (fun q => ?_), fun q => ?_⟩
  · rw [q] at h; exact absurd h (by decide)
  · rcases q with q | q <;> rw [q] at h <;> exact absurd h (by decide)
theorem s_settle {Q : pm_H → Prop} {B l w o : Nat} {due : Bool} (hB : B ≤ 1000) (l1 : 1 ≤ l) (l4 : l ≤ 4) {W : List Nat} {ops : List Op} (hL : La h) (hC : LwC h B W ops w o due) (k : ∀ h', FrW h h' → LwC h' B (stl l W ops).1 (stl l W ops).2 w o due → Q h') : cv G (d + 3) m_X2_settle [.ref 56, .ref 36, .int (nI l)] h Q := by
  refine cv_wp rfl (Nat.le_of_ble_eq_true rfl) rfl ?_
  have key : ∀ (W : List Nat) (ops : List Op) (h1 : pm_H), FrW h h1 → LwC h1 B W ops w o due → (∀ h', FrW h h' → LwC h' B (stl l W ops).1 (stl l W ops).2 w o due → Q h') → Wp G (m_X2_settle, d + 3, 0, 0, fun v h1 => v = none ∧ Q h1) (0, 0) 0 [.ref 56, .ref 36, .int (nI l)] [] h1 := by
    intro W
    induction W with
    | nil =>
      intro ops h1 hF hC k
      have hL1 := hF.1.la hL
      obtain ⟨c1, -⟩ := id hC
      refine x_X2_settle ⟨hL1.lwr.1, ?_⟩
      rw [c1, if_pos (show nI ([] : List Nat).length ≤ 0 from Int32.le_refl _)]
      exact ⟨rfl, k _ hF hC⟩
    | cons x r ih =>
      intro ops h1 hF hC k
      have hL1 := hF.1.la hL
      obtain ⟨a1, a2, a3, a4, a5, a6, a7⟩ := hL1.lwr
      obtain ⟨c1, c2, c3, c4, ⟨c5, c5'⟩, c6, c7, c8, c9, c10, c11, c12, c13⟩ := id hC
      have hx := c8 x List.mem_cons_self
      rw [List.length_cons] at c1 c9 c10
      refine x_X2_settle ⟨a1, ?_⟩
      rw [c1, if_neg (show ¬ nI (r.length + 1) ≤ 0 from fun q => by have := (nI_leI (b := 0) (show r.length + 1 < 2 ^ 31 by omega) (by decide)).mp q; omega), a3, show (1 : Int32) = nI 1 from rfl, pk_sub (by omega), Nat.add_sub_cancel]
      refine ⟨a4.1, row_at a4 ?_⟩
      rw [rd_in (by omega) (by decide), c5]
      refine s_levelOf hx.1 hx.2 ?_
      by_cases c : l ≤ lvK x
      · rw [if_neg (show ¬ nI (lvK x) < nI l from fun q => by have := (nI_ltI (show lvK x < 2 ^ 31 by have := lvK_le x; omega) (show l < 2 ^ 31 by omega)).mp q; omega)]
        refine ⟨a1, ?_⟩
        rw [c1, pk_sub (by omega), Nat.add_sub_cancel]
        rintro _ rfl
        have hF2 : FrW h1 (si h1 56 2 (nI r.length)) := FrW.wi (by omega)
        have hL2 := hF2.1.la hL1
        obtain ⟨b1, b2, b3, b4, b5, b6, b7⟩ := hL2.lwr
        rw [show gp (si h1 56 2 (nI r.length)) 56 1 = 57 from b3, show gi (si h1 56 2 (nI r.length)) 56 2 = nI r.length from rfl]
        refine ⟨a4.1, row_at b4 ?_⟩
        rw [rd_in (by omega) (by decide), show gi (si h1 56 2 (nI r.length)) 58 r.length = wK x from c5]
        refine ⟨a5, s_lawAdd hL2 (n := ops.length) c6 (by omega) ?_⟩
        obtain ⟨w1, w2⟩ := wK_op (show 1 ≤ lvK x by omega)
        have hF3 : FrW h1 (si (si (si h1 56 2 (nI r.length)) 38 ops.length (wK x)) 36 1 (nI (ops.length + 1))) := hF2.trans ((FrW.wi (by omega)).trans (FrW.wi (by omega)))
        rw [stl, if_pos c] at k
        refine ih (ops ++ [(x, 0)]) _ (hF.trans hF3) ⟨rfl, c2, c3, c4, c5', ?_, ?_, fun y hy => c8 y (List.mem_cons_of_mem _ hy), by omega, by rw [List.length_append, List.length_singleton]; omega, ?_, c12, c13⟩ k
        · rw [List.length_append, List.length_singleton]; rfl
        · show CO (up1 (gi h1 38) ops.length (wK x)) 0 (ops ++ [(x, 0)])
          refine CO.snoc (CO.up c7 (by omega)) ?_
          rw [Nat.zero_add, up1_at, w1]
        · rw [nl, if_neg w2] at c11
          omega
      · rw [if_pos (show nI (lvK x) < nI l from (nI_ltI (show lvK x < 2 ^ 31 by have := lvK_le x; omega) (show l < 2 ^ 31 by omega)).mpr (by omega))]
        rw [stl, if_neg c] at k
        exact ⟨rfl, k _ hF hC⟩
  exact key W ops h FrW.rfl' hC k
theorem s_endPart {Q : pm_H → Prop} {B w o : Nat} {due : Bool} (hB : B ≤ 1000) {W : List Nat} {ops : List Op} (hL : La h) (hC : LwC h B W ops w o due) (k : ∀ h', FrW h h' → LwC h' B (enP W ops w).1 (enP W ops w).2.1 (enP W ops w).2.2 o false → Q h') : cv G (d + 3) m_X2_endPart [.ref 56, .ref 36] h Q := by
  refine cv_wp rfl (Nat.le_of_ble_eq_true rfl) rfl ?_
  have key : ∀ (W : List Nat) (ops : List Op) (w : Nat) (h1 : pm_H), FrW h h1 → LwC h1 B W ops w o due → (∀ h', FrW h h' → LwC h' B (enP W ops w).1 (enP W ops w).2.1 (enP W ops w).2.2 o false → Q h') → Wp G (m_X2_endPart, d + 3, 0, 0, fun v h1 => v = none ∧ Q h1) (0, 0) 0 [.ref 56, .ref 36] [] h1 := by
    intro W
    induction W with
    | nil =>
      intro ops w h1 hF hC k
      have hL1 := hF.1.la hL
      obtain ⟨c1, c2, c3, c4, c5, c6, c7, c8, c9, c10, c11, c12, c13⟩ := id hC
      refine x_X2_endPart ⟨hL1.lwr.1, ?_⟩
      rw [c1, if_pos (show nI ([] : List Nat).length ≤ 0 from Int32.le_refl _)]
      rintro _ rfl
      exact ⟨rfl, k _ (hF.trans (FrW.wi (by omega))) ⟨c1, c2, c3, rfl, c5, c6, c7, c8, c9, c10, c11, c12, c13⟩⟩
    | cons x r ih =>
      intro ops w h1 hF hC k
      have hL1 := hF.1.la hL
      obtain ⟨a1, a2, a3, a4, a5, a6, a7⟩ := hL1.lwr
      obtain ⟨c1, c2, c3, c4, ⟨c5, c5'⟩, c6, c7, c8, c9, c10, c11, c12, c13⟩ := id hC
      have hx := c8 x List.mem_cons_self
      rw [List.length_cons] at c1 c9 c10
      refine x_X2_endPart ⟨a1, ?_⟩
      rw [c1, if_neg (show ¬ nI (r.length + 1) ≤ 0 from fun q => by have := (nI_leI (b := 0) (show r.length + 1 < 2 ^ 31 by omega) (by decide)).mp q; omega), a3, show (1 : Int32) = nI 1 from rfl, pk_sub (by omega), Nat.add_sub_cancel]
      refine ⟨a4.1, row_at a4 ?_⟩
      rw [rd_in (by omega) (by decide), c5]
      by_cases c : x = 3
      · subst c
        rw [if_pos (show wK 3 = -7 from rfl)]
        rw [nl, if_pos (Or.inl rfl)] at c11
        refine ⟨a1, ?_⟩
        rw [c1, pk_sub (by omega), Nat.add_sub_cancel]
        rintro _ rfl _ rfl
        rw [show gi (si h1 56 2 (nI r.length)) 56 3 = nI w from c2, pk_sub (by omega)]
        have hF2 : FrW h1 (si (si h1 56 2 (nI r.length)) 56 3 (nI (w - 1))) := (FrW.wi (by omega)).trans (FrW.wi (by omega))
        have hL2 := hF2.1.la hL1
        refine ⟨a5, s_lawAdd hL2 (n := ops.length) c6 (by omega) ?_⟩
        have hF3 : FrW h1 (si (si (si (si h1 56 2 (nI r.length)) 56 3 (nI (w - 1))) 38 ops.length (-7)) 36 1 (nI (ops.length + 1))) := hF2.trans ((FrW.wi (by omega)).trans (FrW.wi (by omega)))
        rw [enP, if_pos rfl] at k
        refine ih (ops ++ [(3, 0)]) (w - 1) _ (hF.trans hF3) ⟨rfl, rfl, c3, c4, c5', ?_, ?_, fun y hy => c8 y (List.mem_cons_of_mem _ hy), by omega, by rw [List.length_append, List.length_singleton]; omega, by omega, by omega, c13⟩ k
        · rw [List.length_append, List.length_singleton]; rfl
        · show CO (up1 (gi h1 38) ops.length (-7)) 0 (ops ++ [(3, 0)])
          refine CO.snoc (CO.up c7 (by omega)) ?_
          rw [Nat.zero_add, up1_at]; rfl
      · have nx : ¬ wK x = -7 := by
          intro q
          have hc : x = 4 ∨ x = 5 ∨ x = 6 ∨ x = 7 ∨ x = 8 ∨ x = 9 ∨ x = 10 ∨ x = 11 := by omega
          rcases hc with e | e | e | e | e | e | e | e <;> rw [e] at q <;> exact absurd q (by decide)
        rw [if_neg nx]
        refine ⟨a1, ?_⟩
        rintro _ rfl
        rw [enP, if_neg c] at k
        exact ⟨rfl, k _ (hF.trans (FrW.wi (by omega))) ⟨by rw [List.length_cons]; exact c1, c2, c3, rfl, ⟨c5, c5'⟩, c6, c7, c8, by rw [List.length_cons]; exact c9, by rw [List.length_cons]; exact c10, c11, c12, c13⟩⟩
  exact key W ops w h FrW.rfl' hC k
theorem s_hold {Q : pm_H → Prop} {n : Nat} {v : Int32} (hL : La h) (h2 : gi h 56 2 = nI n) (hn : n < 64) (k : Q (si (si h 58 n v) 56 2 (nI (n + 1)))) : cv G (d + 2) m_X2_hold [.ref 56, .int v] h Q := by
  obtain ⟨a1, a2, a3, a4, a5, a6, a7⟩ := hL.lwr
  refine cv_wp rfl (Nat.le_of_ble_eq_true rfl) rfl (x_X2_hold ⟨a1, ?_⟩)
  rw [a3]
  refine ⟨a4.1, row_set a4 ?_⟩
  rw [h2, wr_in hn (by decide)]
  refine ⟨a1, ?_⟩
  rintro _ rfl
  rw [show gi (sm h (pm_u (gi h) 58 n v)) 56 2 = nI n from (congrFun (pm_u_ne (gi h) n v (show 56 ≠ 58 by decide)) 2).trans h2, nI_1]
  exact ⟨rfl, k⟩
theorem sgn_is {t : Tk} (ho : TkO t) {c : Nat} (hc : c < 200) : (if t.2.1 = 3 then nI (t.2.2.headD 0) else -1) = nI c ↔ tS c t = true := by
  unfold tS
  rw [Bool.and_eq_true, decide_eq_true_iff, decide_eq_true_iff]
  by_cases e : t.2.1 = 3
  · rw [if_pos e]
    have := ho.2.2.1 e
    rw [nI_inj (by omega) (by omega)]
    exact ⟨fun q => ⟨e, q⟩, fun q => q.2⟩
  · rw [if_neg e]
    exact ⟨fun q => absurd q.symm (nI_nm1 (by omega)), fun q => absurd q.1 e⟩
theorem opT_cases (t : Tk) : (tW 17 t = true ∧ opT t = 9) ∨ (¬ tW 17 t = true ∧ tW 18 t = true ∧ opT t = 10) ∨ (¬ tW 17 t = true ∧ ¬ tW 18 t = true ∧ ((tS 42 t = true ∧ opT t = 6) ∨ (tS 43 t = true ∧ opT t = 4) ∨ (tS 45 t = true ∧ opT t = 5) ∨ (tS 60 t = true ∧ opT t = 7) ∨ (tS 61 t = true ∧ opT t = 8) ∨ (¬ tS 42 t = true ∧ ¬ tS 43 t = true ∧ ¬ tS 45 t = true ∧ ¬ tS 60 t = true ∧ ¬ tS 61 t = true ∧ opT t = 0))) := by
  by_cases a1 : tW 17 t = true
  · exact Or.inl ⟨a1, if_pos a1⟩
  · by_cases a2 : tW 18 t = true
    · exact Or.inr (Or.inl ⟨a1, a2, by unfold opT; rw [if_neg a1, if_pos a2]⟩)
    · refine Or.inr (Or.inr ⟨a1, a2, ?_⟩)
      have u : opT t = if tS 60 t = true then 7 else if tS 61 t = true then 8 else if tS 43 t = true then 4 else if tS 45 t = true then 5 else if tS 42 t = true then 6 else 0 := by unfold opT; rw [if_neg a1, if_neg a2]
      rw [u]
      by_cases b1 : tS 60 t = true
      · rw [if_pos b1]; exact Or.inr (Or.inr (Or.inr (Or.inl ⟨b1, rfl⟩)))
      · rw [if_neg b1]
        by_cases b2 : tS 61 t = true
        · rw [if_pos b2]; exact Or.inr (Or.inr (Or.inr (Or.inr (Or.inl ⟨b2, rfl⟩))))
        · rw [if_neg b2]
          by_cases b3 : tS 43 t = true
          · rw [if_pos b3]; exact Or.inr (Or.inl ⟨b3, rfl⟩)
          · rw [if_neg b3]
            by_cases b4 : tS 45 t = true
            · rw [if_pos b4]; exact Or.inr (Or.inr (Or.inl ⟨b4, rfl⟩))
            · rw [if_neg b4]
              by_cases b5 : tS 42 t = true
              · rw [if_pos b5]; exact Or.inl ⟨b5, rfl⟩
              · rw [if_neg b5]; exact Or.inr (Or.inr (Or.inr (Or.inr (Or.inr ⟨b5, b3, b4, b1, b2, rfl⟩))))
theorem s_joiningSign {t : Tk} {Q : Int32 → pm_H → Prop} (hL : La h) (hf : FldC h t) (ho : TkO t) (k : Q (if opT t = 0 then 0 else wK (opT t)) h) : ci G (d + 1) m_X2_joiningSign [.ref 56] h Q := by
  obtain ⟨a1, a2, -⟩ := hL.lwr
  obtain ⟨f1, f2, f3, f4, f5, f6⟩ := hf
  have f3 : gp h 1 5 = 1000 + wcl t := f3
  refine ci_wp rfl (Nat.le_of_ble_eq_true rfl) rfl (x_X2_joiningSign ⟨a1, ?_⟩)
  rw [a2]
  refine ⟨hL.tap.1, wcl t, wcl_lt t, f3, ?_⟩
  have w17 : tW 17 t = true ↔ wcl t = 17 := by rw [tW_w (by decide), decide_eq_true_iff]
  have w18 : tW 18 t = true ↔ wcl t = 18 := by rw [tW_w (by decide), decide_eq_true_iff]
  rcases opT_cases t with ⟨c1, e⟩ | ⟨c1, c2, e⟩ | ⟨c1, c2, c3⟩
  · rw [e] at k
    rw [if_pos (w17.mp c1)]
    exact ⟨_, rfl, k⟩
  · rw [e] at k
    rw [if_neg (fun q => c1 (w17.mpr q))]
    refine ⟨wcl t, wcl_lt t, f3, ?_⟩
    rw [if_pos (w18.mp c2)]
    exact ⟨_, rfl, k⟩
  · rw [if_neg (fun q => c1 (w17.mpr q))]
    refine ⟨wcl t, wcl_lt t, f3, ?_⟩
    rw [if_neg (fun q => c2 (w18.mpr q)), f6]
    have z42 : ((if t.2.1 = 3 then nI (t.2.2.headD 0) else -1) = (42 : Int32)) ↔ tS 42 t = true := sgn_is ho (c := 42) (by decide)
    have z43 : ((if t.2.1 = 3 then nI (t.2.2.headD 0) else -1) = (43 : Int32)) ↔ tS 43 t = true := sgn_is ho (c := 43) (by decide)
    have z45 : ((if t.2.1 = 3 then nI (t.2.2.headD 0) else -1) = (45 : Int32)) ↔ tS 45 t = true := sgn_is ho (c := 45) (by decide)
    have z60 : ((if t.2.1 = 3 then nI (t.2.2.headD 0) else -1) = (60 : Int32)) ↔ tS 60 t = true := sgn_is ho (c := 60) (by decide)
    have z61 : ((if t.2.1 = 3 then nI (t.2.2.headD 0) else -1) = (61 : Int32)) ↔ tS 61 t = true := sgn_is ho (c := 61) (by decide)
    rcases c3 with ⟨c, e⟩ | ⟨c, e⟩ | ⟨c, e⟩ | ⟨c, e⟩ | ⟨c, e⟩ | ⟨b1, b2, b3, b4, b5, e⟩
    · rw [e] at k
      rw [if_pos (z42.mpr c)]; exact ⟨_, rfl, k⟩
    · rw [e] at k
      rw [if_neg (fun q => absurd (z42.mp q) (by rw [tS_ne c (by decide)]; decide)), if_pos (z43.mpr c)]; exact ⟨_, rfl, k⟩
    · rw [e] at k
      rw [if_neg (fun q => absurd (z42.mp q) (by rw [tS_ne c (by decide)]; decide)), if_neg (fun q => absurd (z43.mp q) (by rw [tS_ne c (by decide)]; decide)), if_pos (z45.mpr c)]; exact ⟨_, rfl, k⟩
    · rw [e] at k
      rw [if_neg (fun q => absurd (z42.mp q) (by rw [tS_ne c (by decide)]; decide)), if_neg (fun q => absurd (z43.mp q) (by rw [tS_ne c (by decide)]; decide)), if_neg (fun q => absurd (z45.mp q) (by rw [tS_ne c (by decide)]; decide)), if_pos (z60.mpr c)]; exact ⟨_, rfl, k⟩
    · rw [e] at k
      rw [if_neg (fun q => absurd (z42.mp q) (by rw [tS_ne c (by decide)]; decide)), if_neg (fun q => absurd (z43.mp q) (by rw [tS_ne c (by decide)]; decide)), if_neg (fun q => absurd (z45.mp q) (by rw [tS_ne c (by decide)]; decide)), if_neg (fun q => absurd (z60.mp q) (by rw [tS_ne c (by decide)]; decide)), if_pos (z61.mpr c)]; exact ⟨_, rfl, k⟩
    · rw [e] at k
      rw [if_neg (fun q => b1 (z42.mp q)), if_neg (fun q => b2 (z43.mp q)), if_neg (fun q => b3 (z45.mp q)), if_neg (fun q => b4 (z60.mp q)), if_neg (fun q => b5 (z61.mp q))]; exact ⟨_, rfl, k⟩
theorem s_readPart {Q : Int32 → pm_H → Prop} {B w o : Nat} {W : List Nat} {ops : List Op} {ts : List Tk} (hB : B ≤ 1000) (hB1 : (hdT ts).2.1 ≠ 0 → B < 1000) (hL : La h) (hC : LwC h B W ops w o true) (hf : FldC h (hdT ts)) (ho : TkO (hdT ts)) (hn : ∀ x, stD W ops w o ts ≠ .inr (99, x))
    (k1 : ∀ W' ops' w' o' due', stD W ops w o ts = .inl (W', ops', w', o', due', ts.tail) → (hdT ts).2.1 ≠ 0 → ∀ h', FrW h h' → LwC h' (B + 1) W' ops' w' o' due' → Q 0 h')
    (k2 : ∀ n, stD W ops w o ts = .inr (n, ts, []) → n < 10 → n ≠ 0 → Q (nI n) h) : ci G (d + 4) m_X2_readPart [.ref 56, .ref 36] h Q := by
  obtain ⟨a1, a2, a3, a4, a5, a6, a7⟩ := hL.lwr
  obtain ⟨f1, f2, f3, f4, f5, f6⟩ := hf
  obtain ⟨c1, c2, c3, c4, c5, c6, c7, c8, c9, c10, c11, c12, c13⟩ := id hC
  generalize ht : hdT ts = t at *
  have f3 : gp h 1 5 = 1000 + wcl t := f3
  have w16 : tW 16 t = true ↔ wcl t = 16 := by rw [tW_w (by decide), decide_eq_true_iff]
  obtain ⟨g1, g2⟩ := wd_fact (wcl t) (List.mem_range.mpr (wcl_lt t))
  rw [← fcT_n] at g2
  unfold stD at hn k1 k2
  rw [ht] at hn k1 k2
  have e40 : ((if t.2.1 = 3 then nI (t.2.2.headD 0) else -1) = (40 : Int32)) ↔ tS 40 t = true := sgn_is ho (c := 40) (by decide)
  have eN : tN t = true ↔ t.2.1 = 2 := by unfold tN; rw [decide_eq_true_iff]
  refine ci_wp rfl (Nat.le_of_ble_eq_true rfl) rfl (x_X2_readPart ⟨a1, ?_⟩)
  rw [a2]
  refine ⟨hL.tap.1, ?_⟩
  rw [f6]
  have lt5 : ¬ 5 ≤ w → gi h 56 3 < 5 := fun q => by rw [c2]; exact (nI_ltI (b := 5) (by omega) (by decide)).mpr (by omega)
  -- too deep, or held
  have deep : ∀ l2 l3 l4 l5 : Int32, stT t = true → 5 ≤ w → Wp G (m_X2_readPart, d + 3 + 1, 0, 0, fun v h1 => ∃ r, v = some (.int r) ∧ Q r h1) (0, 0) 87 [.ref 56, .ref 36, .int l2, .int l3, .int l4, .int l5] [] h := by
    intro l2 l3 l4 l5 hs h5
    refine x_X2_readPart_87 ⟨a1, ?_⟩
    rw [c2, if_neg (show ¬ nI w < 5 from fun q => by have := (nI_ltI (b := 5) (by omega) (by decide)).mp q; omega)]
    rw [if_neg (by rw [hs]; decide), if_pos h5] at k2
    exact ⟨_, rfl, k2 5 rfl (by decide) (by decide)⟩
  by_cases p1 : tS 40 t = true
  · have s3 : t.2.1 = 3 := by unfold tS at p1; rw [Bool.and_eq_true, decide_eq_true_iff] at p1; exact p1.1
    have w0 : wcl t = 0 := if_neg (by omega)
    have hs : stT t = true := by unfold stT; rw [p1]; rfl
    rw [if_pos (e40.mpr p1)]
    refine ⟨wcl t, wcl_lt t, f3, ?_⟩
    rw [if_neg (by omega), f1, if_neg (show ¬ nI t.2.1 = 2 by rw [s3]; decide)]
    refine ⟨wcl t, _, g1, f3, ?_⟩
    by_cases h5 : 5 ≤ w
    · exact deep _ _ _ _ hs h5
    refine x_X2_readPart_87 ⟨a1, ?_⟩
    rw [if_pos (lt5 h5), if_neg (show ¬ (1 : Int32) = 0 by decide)]
    refine x_X2_readPart_105 ?_
    rw [if_neg (show ¬ (1 : Int32) = 0 by decide)]
    rw [if_neg (by rw [hs]; decide), if_neg h5, if_pos p1] at hn k1
    have h60 : W.length < 60 := by
      by_cases z : W.length < 60
      · exact z
      · rw [if_neg z] at hn; exact absurd rfl (hn _)
    rw [if_pos h60] at k1
    refine ⟨a1, s_hold (d := d + 1) hL c1 (by omega) ⟨a1, ?_⟩⟩
    rintro _ rfl
    rw [if_neg (show ¬ (1 : Int32) = 0 by decide)]
    rintro _ rfl
    refine ⟨_, rfl, k1 _ _ _ _ _ rfl (by omega) _ ((FrW.wi (by omega)).trans ((FrW.wi (by omega)).trans ((FrW.wi (by omega)).trans (FrW.wi (by omega))))) ⟨rfl, ?_, ?_, c4, ⟨?_, c5.up (Nat.le_refl _)⟩, c6, c7, ?_, by rw [List.length_cons]; omega, by rw [List.length_cons]; omega, ?_, by omega, by omega⟩⟩
    · show gi h 56 3 + 1 = _
      rw [c2, nI_1]
    · show gi h 56 4 + 1 = _
      rw [c3, nI_1]
    · exact up1_at (gi h 58) W.length (-6)
    · intro y hy
      rcases List.mem_cons.mp hy with e | e
      · rw [e]; decide
      · exact c8 y e
    · rw [nl, if_pos (Or.inr rfl)]; omega
  · rw [if_neg (fun q => p1 (e40.mp q))]
    refine ⟨wcl t, wcl_lt t, f3, ?_⟩
    by_cases p2 : tW 16 t = true
    · have s1 : t.2.1 = 1 := by unfold tW at p2; rw [Bool.and_eq_true, decide_eq_true_iff] at p2; exact p2.1
      have hs : stT t = true := by unfold stT; rw [p2]; simp
      rw [if_pos (w16.mp p2), f1, if_neg (show ¬ nI t.2.1 = 2 by rw [s1]; decide)]
      refine ⟨wcl t, _, g1, f3, ?_⟩
      by_cases h5 : 5 ≤ w
      · exact deep _ _ _ _ hs h5
      refine x_X2_readPart_87 ⟨a1, ?_⟩
      rw [if_pos (lt5 h5), if_pos (show (0 : Int32) = 0 from rfl), if_neg (show ¬ (1 : Int32) = 0 by decide)]
      refine x_X2_readPart_105 ?_
      rw [if_pos (show (0 : Int32) = 0 from rfl)]
      rw [if_neg (by rw [hs]; decide), if_neg h5, if_neg p1, if_pos p2] at hn k1
      have h60 : W.length < 60 := by
        by_cases z : W.length < 60
        · exact z
        · rw [if_neg z] at hn; exact absurd rfl (hn _)
      rw [if_pos h60] at k1
      refine ⟨a1, s_hold (d := d + 1) hL c1 (by omega) ⟨a1, ?_⟩⟩
      rintro _ rfl
      rw [if_pos (show (0 : Int32) = 0 from rfl)]
      rintro _ rfl
      refine ⟨_, rfl, k1 _ _ _ _ _ rfl (by omega) _ ((FrW.wi (by omega)).trans ((FrW.wi (by omega)).trans ((FrW.wi (by omega)).trans (FrW.wi (by omega))))) ⟨rfl, ?_, ?_, c4, ⟨?_, c5.up (Nat.le_refl _)⟩, c6, c7, ?_, by rw [List.length_cons]; omega, by rw [List.length_cons]; omega, ?_, by omega, by omega⟩⟩
      · show gi h 56 3 + 1 = _
        rw [c2, nI_1]
      · show gi h 56 4 + 0 = _
        rw [c3, Int32.add_zero]
      · exact up1_at (gi h 58) W.length (-7)
      · intro y hy
        rcases List.mem_cons.mp hy with e | e
        · rw [e]; decide
        · exact c8 y e
      · rw [nl, if_pos (Or.inl rfl)]; omega
    · rw [if_neg (fun q => p2 (w16.mpr q)), f1]
      -- one number or fact
      have one : stT t = true → ¬ 5 ≤ w → t.2.1 ≠ 0 → cv G (d + 3) m_X1_add [.ref 36, .int (cO (paO t))] h (fun h2 => (h2.1[56]? = some (0, 2)) ∧ cv G (d + 3) m_X2_endPart [.ref 56, .ref 36] h2 fun h4 => ∃ r, (some (.int 0) : Option Value) = some (.int r) ∧ Q r h4) := by
        intro hs h5 h0
        have hB2 := hB1 h0
        rw [if_neg (by rw [hs]; decide), if_neg h5, if_neg p1, if_neg p2] at k1
        refine s_lawAdd (d := d + 1) hL (n := ops.length) c6 (by omega) ?_
        have hF2 : FrW h (si (si h 38 ops.length (cO (paO t))) 36 1 (nI (ops.length + 1))) := (FrW.wi (by omega)).trans (FrW.wi (by omega))
        refine ⟨a1, s_endPart (d := d) (B := B + 1) (W := W) (ops := ops ++ [paO t]) (w := w) (o := o) (due := true) (by omega) (hF2.1.la hL) ⟨c1, c2, c3, c4, c5, ?_, ?_, c8, c9, by rw [List.length_append, List.length_singleton]; omega, c11, c12, by omega⟩ (fun h' q1 q2 => ?_)⟩
        · rw [List.length_append, List.length_singleton]; rfl
        · show CO (up1 (gi h 38) ops.length (cO (paO t))) 0 (ops ++ [paO t])
          refine CO.snoc (CO.up c7 (by omega)) ?_
          rw [Nat.zero_add, up1_at]
        · exact ⟨_, rfl, k1 _ _ _ _ _ rfl h0 h' (hF2.trans q1) q2⟩
      by_cases p3 : tN t = true
      · have s2 := eN.mp p3
        have hs : stT t = true := by unfold stT; rw [p3]; simp
        rw [if_pos (show nI t.2.1 = 2 by rw [s2]; rfl)]
        refine ⟨wcl t, _, g1, f3, ?_⟩
        by_cases h5 : 5 ≤ w
        · exact deep _ _ _ _ hs h5
        refine x_X2_readPart_87 ⟨a1, ?_⟩
        rw [if_pos (lt5 h5), if_pos (show (0 : Int32) = 0 from rfl), if_pos (show (0 : Int32) = 0 from rfl), if_neg (show ¬ (1 : Int32) = 0 by decide), a2, f5, if_pos s2]
        refine ⟨hL.tap.1, a5, ?_⟩
        have e : cO (paO t) = nI (nmv t.2.2) := by unfold paO; rw [if_pos p3]; rfl
        have := one hs h5 (by omega)
        rw [e] at this
        exact this
      · have n2 : ¬ t.2.1 = 2 := fun q => p3 (eN.mpr q)
        rw [if_neg (show ¬ nI t.2.1 = 2 from fun q => by
          exact n2 ((nI_inj (b := 2) (show t.2.1 < 2 ^ 31 by have := ho.2.2.2.2; omega) (by decide)).mp q))]
        refine ⟨wcl t, _, g1, f3, ?_⟩
        rw [g2]
        cases hfc : fcT t with
        | none =>
          rw [if_pos (show fcv none = 0 from rfl)]
          have hs : stT t = false := by
            unfold stT
            rw [hfc, show tS 40 t = false by simpa using p1, show tW 16 t = false by simpa using p2, show tN t = false by simpa using p3]; rfl
          rw [if_pos hs] at k2
          exact ⟨_, rfl, k2 1 rfl (by decide) (by decide)⟩
        | some j =>
          have hj : j < 4 := by
            rw [fcT_n] at hfc
            unfold fcN at hfc
            split at hfc
            · cases hfc; decide
            · split at hfc
              · cases hfc; decide
              · split at hfc
                · cases hfc; decide
                · split at hfc
                  · cases hfc; decide
                  · cases hfc
          have hs : stT t = true := by unfold stT; rw [hfc]; simp
          have nz := (cO2 (a0 := j) hj).2.2
          rw [if_neg (show ¬ fcv (some j) = 0 from fun q => by
            have q : cO (2, j) = 0 := q
            rw [q] at nz; exact absurd nz (by decide))]
          by_cases h5 : 5 ≤ w
          · exact deep _ _ _ _ hs h5
          refine x_X2_readPart_87 ⟨a1, ?_⟩
          rw [if_pos (lt5 h5), if_pos (show (0 : Int32) = 0 from rfl), if_pos (show (0 : Int32) = 0 from rfl), if_pos (show (0 : Int32) = 0 from rfl)]
          refine ⟨a5, ?_⟩
          have e : cO (paO t) = cO (2, j) := by unfold paO; rw [if_neg p3, hfc]; rfl
          have := one hs h5 (fun q => by
            have : wcl t = 0 := if_neg (by omega)
            rw [fcT_n, this] at hfc
            cases hfc)
          rw [e] at this
          exact this
end LWR
