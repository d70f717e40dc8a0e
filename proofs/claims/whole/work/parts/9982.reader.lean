/-! THE READER, TOKEN by TOKEN -/
def nameT (t : Tk) : Bool := decide (t.2.1 = 1) && (decide (wcl t = 0) || decide (19 ≤ wcl t))
def kdT (t : Tk) : Option Nat := if wcl t = 12 then some 0 else if wcl t = 13 then some 1 else if wcl t = 14 then some 2 else if wcl t = 15 then some 3 else none
def kdv (o : Option Nat) : Int32 := oI o
theorem wd_free : ∀ i ∈ List.range 22, ((pm_wd.getD i ("", 0, 0, 0, 0)).2.2.1 = 0 ↔ ¬ (i = 0 ∨ 19 ≤ i)) ∧ (pm_wd.getD i ("", 0, 0, 0, 0)).2.2.2.1 = oI (if i = 12 then some 0 else if i = 13 then some 1 else if i = 14 then some 2 else if i = 15 then some 3 else none) := by decide +kernel
def idN (ns : List (List Nat)) (t : Tk) : Option Nat := fnd (fun i => decide (ns.getD i [] = t.2.2)) ns.length
def newK (told : Bool) (t : Tk) : Nat := if nameT t = false then 1 else if told = true then 3 else 0
def oldK (ns : List (List Nat)) (but : Option Nat) (t : Tk) : Nat := if nameT t = false then 1 else if idN ns t = none then 2 else if idN ns t = but then 3 else 0
def numK (lo hi : Nat) (t : Tk) : Nat := if tN t = false then 1 else if nmv t.2.2 < lo ∨ hi < nmv t.2.2 then 4 else 0
def NmO (ns : List (List Nat)) : Prop := ∀ l ∈ ns, ltr l ∧ l.length ≤ 8
def NmC (h : pm_H) (o : Nat) (ns : List (List Nat)) : Prop := gi h o 1 = nI ns.length ∧ ∀ i, i < ns.length → gj h (o + 1) i = lN (e32 (ns.getD i []))
def rdS (a : Nat) : Prop := a = 1 ∨ a = 55
def FrD (h h' : pm_H) : Prop := FrS rdS h h' ∧ gi h' 55 3 = gi h 55 3 ∧ gi h' 55 4 = gi h 55 4
theorem FrD.rfl' {h : pm_H} : FrD h h := ⟨FrS.rfl', rfl, rfl⟩
theorem FrD.trans {h h1 h2 : pm_H} (a : FrD h h1) (b : FrD h1 h2) : FrD h h2 := ⟨a.1.trans b.1, b.2.1.trans a.2.1, b.2.2.trans a.2.2⟩
theorem FrD.la {h h' : pm_H} (f : FrD h h') (hL : La h) : La h' := f.1.la hL
theorem FrD.nm {h h' : pm_H} {o : Nat} {ns : List (List Nat)} (f : FrD h h') (ho : o ≠ 1 ∧ o ≠ 55 ∧ o + 1 ≠ 55 ∧ 0 < o) (hN : NmC h o ns) : NmC h' o ns := by
  have a : ¬ rdS o := by unfold rdS; omega
  have b : ¬ rdS (o + 1) := by unfold rdS; omega
  exact ⟨(congrFun (f.1.2.1 o a) 1).trans hN.1, fun i hi => (congrFun (f.1.2.2.2.1 (o + 1) b) i).trans (hN.2 i hi)⟩
def CS (h : pm_H) (tx : List Nat) (s : PS) : Prop := TxO tx ∧ TxC h tx ∧ gi h 55 2 = nI (flv s) ∧ CurC h tx s.2 ∧ TsO s.2 ∧ s.1 ≤ 5
theorem La.rdr {h : pm_H} (hL : La h) : h.1[55]? = some (0, 5) ∧ gp h 55 0 = 1 ∧ gp h 55 1 = 56 := ⟨hL.k (by decide +kernel), hL.p (by decide +kernel) (by omega), hL.p (by decide +kernel) (by omega)⟩
theorem flv_lt {s : PS} (h1 : TsO s.2) (h2 : s.1 ≤ 5) : flv s < 2 ^ 31 ∧ (flv s = 0 ↔ s.1 = 0) := by
  have hp := h1.at.1.2.2.2.1
  unfold flv
  constructor
  · split <;> omega
  · split <;> omega
theorem CS.f0 {h : pm_H} {tx : List Nat} {s : PS} (c : CS h tx s) : (gi h 55 2 = 0 ↔ s.1 = 0) := by
  obtain ⟨-, -, c3, -, c5, c6⟩ := c
  obtain ⟨a, b⟩ := flv_lt c5 c6
  rw [c3, show (0 : Int32) = nI 0 from rfl, nI_inj a (by decide), b]
theorem lg0 {x y : Int64} : lg_cmp x y = 0 ↔ x = y := by
  unfold lg_cmp
  constructor
  · intro q
    split at q
    · exact absurd q (by decide)
    · split at q
      · first
          | assumption
          | exact absurd q (by decide)
      · first
          | exact absurd q (by decide)
          | (have := ‹¬ x > y›; have := ‹¬ x < y›; exact Int64.le_antisymm (Int64.not_lt.mp ‹¬ x > y›) (Int64.not_lt.mp ‹¬ x < y›))
  · intro q
    subst q
    rw [if_neg (Int64.lt_irrefl)]
    first
      | rw [if_pos rfl]
      | rw [if_neg (Int64.lt_irrefl)]
theorem btrue {b : Bool} (h : ¬ b = false) : b = true := by
  cases b with
  | false => exact absurd rfl h
  | true => rfl
section RDR
variable {G : pm_G} {d : Nat} {h : pm_H} {tx : List Nat} {s : PS}
theorem s_fail {k : Nat} {Q : pm_H → Prop} (hL : La h) (hC : CS h tx s) (hk : k ≤ 5) (w : ∀ h', FrD h h' → CS h' tx (wrg k s) → Q h') : cv G (d + 1) m_X5_fail [.ref 55, .int (nI k)] h Q := by
  obtain ⟨r1, r2, r3⟩ := hL.rdr
  refine cv_wp rfl (Nat.le_of_ble_eq_true rfl) rfl (x_X5_fail ⟨r1, ?_⟩)
  obtain ⟨c1, c2, c3, c4, c5, c6⟩ := id hC
  unfold wrg at w
  by_cases f : s.1 = 0
  · rw [if_pos (hC.f0.mpr f)]
    rw [if_pos f] at w
    by_cases k0 : k = 0
    · rw [if_pos (show nI k = 0 by rw [k0]; rfl)]
      subst k0
      have e : ((0, s.2) : PS) = s := Prod.ext f.symm rfl
      rw [e] at w
      exact ⟨rfl, w h FrD.rfl' hC⟩
    · rw [if_neg (show ¬ nI k = 0 from fun q => k0 ((nI_inj (b := 0) (show k < 2 ^ 31 by omega) (by decide)).mp q)), r2]
      refine ⟨hL.tap.1, ?_⟩
      rintro _ rfl
      obtain ⟨r, e1, e2, hf⟩ := c4.at
      rw [hf.2.1, show (16 : Int32) = nI 16 from rfl, pk_mul, nI_add]
      have fr : FrS rdS h (si h 55 2 (nI (k + 16 * (hdT s.2).1))) := FrS.wi (Or.inr rfl) (by decide)
      refine ⟨rfl, w _ ⟨fr, rfl, rfl⟩ ⟨c1, fr.tx (by unfold rdS; omega) c2, ?_, c4.keep (pm_u_ne (gi h) 2 (nI (k + 16 * (hdT s.2).1)) (show 1 ≠ 55 by decide)) rfl rfl, c5, hk⟩⟩
      unfold flv
      rw [if_neg (show ¬ (k, s.2).1 = 0 from k0)]
      rfl
  · rw [if_neg (fun q => f (hC.f0.mp q))]
    rw [if_neg f] at w
    exact ⟨rfl, w h FrD.rfl' hC⟩
theorem s_pass {Q : pm_H → Prop} (hL : La h) (hC : CS h tx s) (h0 : s.1 = 0 → (hdT s.2).2.1 ≠ 0) (w : ∀ h', FrD h h' → CS h' tx (if s.1 = 0 then (0, s.2.tail) else s) → Q h') : cv G (d + 4) m_X5_pass [.ref 55] h Q := by
  obtain ⟨r1, r2, r3⟩ := hL.rdr
  refine cv_wp rfl (Nat.le_of_ble_eq_true rfl) rfl (x_X5_pass ⟨r1, ?_⟩)
  obtain ⟨c1, c2, c3, c4, c5, c6⟩ := id hC
  by_cases f : s.1 = 0
  · rw [if_pos (hC.f0.mpr f), r2]
    rw [if_pos f] at w
    obtain ⟨r, e1, e2, hf⟩ := c4.at
    have c4' := c4
    rw [e1] at c4'
    refine ⟨hL.tap.1, s_next (d := d) hL c1 c2 c4' (h0 f) (fun h' a b => ⟨rfl, w h' ⟨a.fr (Or.inl rfl), congrFun (a.2.1 55 (by decide)) 3, congrFun (a.2.1 55 (by decide)) 4⟩ ⟨c1, a.tx c2, ?_, by rw [e2]; exact b, c5.at.2.1 (h0 f), Nat.zero_le _⟩⟩)⟩
    refine (congrFun (a.2.1 55 (by decide)) 2).trans ?_
    rw [c3]
    unfold flv
    rw [if_pos f]; rfl
  · rw [if_neg (fun q => f (hC.f0.mp q))]
    rw [if_neg f] at w
    exact ⟨rfl, w h FrD.rfl' hC⟩
/-- one TOKEN: its fault, or it is passed -/
theorem s_fp {k : Nat} {Q : pm_H → Prop} (hL : La h) (hC : CS h tx s) (hk : k ≤ 5) (h0 : k = 0 → s.1 = 0 → (hdT s.2).2.1 ≠ 0) (w : ∀ h', FrD h h' → CS h' tx (stp k s) → Q h') : cv G (d + 4) m_X5_fail [.ref 55, .int (nI k)] h (fun h2 => (h2.1[55]? = some (0, 5)) ∧ cv G (d + 4) m_X5_pass [.ref 55] h2 Q) := by
  refine s_fail (d := d + 3) hL hC hk (fun h1 f1 c1 => ?_)
  have hL1 := f1.la hL
  have e : (if (wrg k s).1 = 0 then ((0, (wrg k s).2.tail) : PS) else wrg k s) = stp k s := by
    unfold wrg stp
    by_cases f : s.1 = 0
    · rw [if_pos f, if_pos f]
    · rw [if_neg f, if_neg f, if_neg f]
  refine ⟨hL1.rdr.1, s_pass (d := d) hL1 c1 (fun q => ?_) (fun h2 f2 c2 => w h2 (f1.trans f2) (by rw [← e]; exact c2))⟩
  unfold wrg at q ⊢
  by_cases f : s.1 = 0
  · rw [if_pos f] at q ⊢
    exact h0 q f
  · rw [if_neg f] at q; exact absurd q f
theorem s_rbegin {k : Nat} {Q : pm_H → Prop} (hL : La h) (hC : CS h tx s) (hk : k ≤ 5) (h0 : k = 0 → s.1 = 0 → (hdT s.2).2.1 ≠ 0) (w : ∀ h', FrD h h' → CS h' tx (stp k s) → Q h') : cv G (d + 5) m_X5_begin [.ref 55, .int (nI k)] h Q := by
  refine cv_wp rfl (Nat.le_of_ble_eq_true rfl) rfl (x_X5_begin ⟨hL.rdr.1, ?_⟩)
  exact s_fp (d := d) hL hC hk h0 (fun h' a b => ⟨rfl, w h' a b⟩)
theorem s_expect {i : Nat} {Q : pm_H → Prop} (hL : La h) (hC : CS h tx s) (hi : i < 22) (h0 : 0 < i) (w : ∀ h', FrD h h' → CS h' tx (stp (if tW i (hdT s.2) = true then 0 else 1) s) → Q h') : cv G (d + 5) m_X5_expect [.ref 55, .ref (1000 + i)] h Q := by
  obtain ⟨r1, r2, r3⟩ := hL.rdr
  obtain ⟨r, e1, e2, hf⟩ := hC.2.2.2.1.at
  have f3 : gp h 1 5 = 1000 + wcl (hdT s.2) := hf.2.2.1
  refine cv_wp rfl (Nat.le_of_ble_eq_true rfl) rfl (x_X5_expect ⟨r1, ?_⟩)
  rw [r2]
  refine ⟨hL.tap.1, wcl (hdT s.2), wcl_lt _, f3, i, hi, rfl, ?_⟩
  by_cases c : wcl (hdT s.2) = i
  · have t : tW i (hdT s.2) = true := by rw [tW_w h0]; exact decide_eq_true c
    rw [if_pos t] at w
    rw [if_pos c]
    exact s_fp (d := d) (k := 0) hL hC (by decide) (fun _ _ => by rw [tW_sort t]; decide) (fun h' a b => ⟨rfl, w h' a b⟩)
  · have t : ¬ tW i (hdT s.2) = true := by rw [tW_w h0]; exact fun q => c (of_decide_eq_true q)
    rw [if_neg t] at w
    rw [if_neg c]
    exact s_fp (d := d) (k := 1) hL hC (by decide) (fun q => by cases q) (fun h' a b => ⟨rfl, w h' a b⟩)
theorem s_expectEnd {Q : pm_H → Prop} (hL : La h) (hC : CS h tx s) (w : ∀ h', FrD h h' → CS h' tx (stp (if tS 59 (hdT s.2) = true then 0 else 1) s) → Q h') : cv G (d + 5) m_X5_expectEnd [.ref 55] h Q := by
  obtain ⟨r1, r2, r3⟩ := hL.rdr
  obtain ⟨r, e1, e2, hf⟩ := hC.2.2.2.1.at
  have ho := hC.2.2.2.2.1.at.1
  have e59 : ((if (hdT s.2).2.1 = 3 then nI ((hdT s.2).2.2.headD 0) else -1) = (59 : Int32)) ↔ tS 59 (hdT s.2) = true := sgn_is ho (c := 59) (by decide)
  refine cv_wp rfl (Nat.le_of_ble_eq_true rfl) rfl (x_X5_expectEnd ⟨r1, ?_⟩)
  rw [r2, hf.2.2.2.2.2]
  refine ⟨hL.tap.1, ?_⟩
  by_cases c : tS 59 (hdT s.2) = true
  · rw [if_pos c] at w
    rw [if_pos (e59.mpr c)]
    exact s_fp (d := d) (k := 0) hL hC (by decide) (fun _ _ => by rw [tS_sort c]; decide) (fun h' a b => ⟨rfl, w h' a b⟩)
  · rw [if_neg c] at w
    rw [if_neg (fun q => c (e59.mp q))]
    exact s_fp (d := d) (k := 1) hL hC (by decide) (fun q => by cases q) (fun h' a b => ⟨rfl, w h' a b⟩)
theorem s_isName {Q : Int32 → pm_H → Prop} (hL : La h) (hC : CS h tx s) (w : Q (b2i (nameT (hdT s.2))) h) : ci G (d + 1) m_X5_isName [.ref 55] h Q := by
  obtain ⟨r1, r2, r3⟩ := hL.rdr
  obtain ⟨r, e1, e2, hf⟩ := hC.2.2.2.1.at
  have ho := hC.2.2.2.2.1.at.1
  have f3 : gp h 1 5 = 1000 + wcl (hdT s.2) := hf.2.2.1
  obtain ⟨g1, -⟩ := wd_fact (wcl (hdT s.2)) (List.mem_range.mpr (wcl_lt _))
  obtain ⟨g2, -⟩ := wd_free (wcl (hdT s.2)) (List.mem_range.mpr (wcl_lt _))
  refine ci_wp rfl (Nat.le_of_ble_eq_true rfl) rfl (x_X5_isName ⟨r1, ?_⟩)
  rw [r2, hf.1]
  refine ⟨hL.tap.1, ?_⟩
  unfold nameT at w
  by_cases c : (hdT s.2).2.1 = 1
  · rw [if_pos (show nI (hdT s.2).2.1 = 1 by rw [c]; rfl)]
    rw [decide_eq_true c, Bool.true_and] at w
    refine ⟨wcl (hdT s.2), _, g1, f3, ?_⟩
    by_cases q : wcl (hdT s.2) = 0 ∨ 19 ≤ wcl (hdT s.2)
    · rw [if_neg (fun z => g2.mp z q)]
      have : (decide (wcl (hdT s.2) = 0) || decide (19 ≤ wcl (hdT s.2))) = true := by
        rw [Bool.or_eq_true, decide_eq_true_iff, decide_eq_true_iff]; exact q
      rw [this] at w
      exact ⟨_, rfl, w⟩
    · rw [if_pos (g2.mpr q)]
      have : (decide (wcl (hdT s.2) = 0) || decide (19 ≤ wcl (hdT s.2))) = false := by
        rw [Bool.or_eq_false_iff, decide_eq_false_iff_not, decide_eq_false_iff_not]; omega
      rw [this] at w
      exact ⟨_, rfl, w⟩
  · have so := ho.2.2.2.2
    rw [if_neg (show ¬ nI (hdT s.2).2.1 = 1 from fun q => c ((nI_inj (b := 1) (show (hdT s.2).2.1 < 2 ^ 31 by omega) (by decide)).mp q))]
    rw [decide_eq_false c, Bool.false_and] at w
    exact ⟨_, rfl, w⟩
theorem s_find {o n m : Nat} {V : Int64} {Q : Int32 → pm_H → Prop} (h1 : h.1[o]? = some (0, 3)) (h2 : gp h o 0 = o + 1) (h3 : h.1[o + 1]? = some (2, m)) (hn : gi h o 1 = nI n) (hm : n ≤ m) (hm2 : m < 1000) (w : Q (oI (fnd (fun i => decide (gj h (o + 1) i = V)) n)) h) : ci G (d + 1) m_X3_find [.ref o, .long V] h Q := by
  refine ci_wp rfl (Nat.le_of_ble_eq_true rfl) rfl (x_X3_find ?_)
  have key := up_to (P := fun k => fnd (fun i => decide (gj h (o + 1) i = V)) k = none → Wp G (m_X3_find, d + 1, 0, 0, fun v h1 => ∃ r, v = some (.int r) ∧ Q r h1) (0, 0) 2 [.ref o, .long V, .null, .int (nI k)] [] h) n (fun k hk ih => ?_) ?_
  · exact key rfl
  · intro e
    refine x_X3_find_2 ⟨h1, ?_⟩
    rw [hn, if_neg (show ¬ nI n ≤ nI k from nI_nlen hk (by omega)), h2]
    refine ⟨m, h3, ?_⟩
    rw [if_neg (show ¬ Int32.ofNat m ≤ nI k from nI_nlen (by omega) (by omega)), cl_nI (show k < 2 ^ 31 by omega), nI_1]
    refine ⟨vp_nI (by omega) (by omega), ?_⟩
    by_cases c : gj h (o + 1) k = V
    · rw [if_pos (lg0.mpr c)]
      rw [fnd_at (m := n) e (decide_eq_true c) hk] at w
      exact ⟨_, rfl, w⟩
    · rw [if_neg (fun q => c (lg0.mp q))]
      exact ih (fnd_no e (decide_eq_false c))
  · intro e
    refine x_X3_find_2 ⟨h1, ?_⟩
    rw [hn, if_pos (Int32.le_refl _)]
    rw [e] at w
    exact ⟨_, rfl, w⟩
theorem fnd_same {p q : Nat → Bool} : ∀ {n : Nat}, (∀ i, i < n → p i = q i) → fnd p n = fnd q n
  | 0, _ => rfl
  | n + 1, h => by
    rw [fnd, fnd, fnd_same (fun i hi => h i (by omega)), h n (by omega)]
theorem find_is {o : Nat} {ns : List (List Nat)} {t : Tk} (hN : NmC h o ns) (hO : NmO ns) (ht : TkO t) (h1 : t.2.1 = 1) : fnd (fun i => decide (gj h (o + 1) i = lN (e32 t.2.2))) ns.length = idN ns t := by
  unfold idN
  refine fnd_same (fun i hi => ?_)
  have e : ns.getD i [] = ns[i] := by simp [List.getD_eq_getElem?_getD, hi]
  obtain ⟨a1, a2⟩ := hO ns[i] (List.getElem_mem hi)
  obtain ⟨b1, b2⟩ := ht.1 h1
  rw [hN.2 i hi, e]
  have l1 := e32_lt a1 a2
  have l2 := e32_lt b1 b2
  have := (lcmp_e (a := e32 ns[i]) (b := e32 t.2.2) (by omega) (by omega)).1
  by_cases c : ns[i] = t.2.2
  · rw [decide_eq_true c, decide_eq_true (by rw [c])]
  · rw [decide_eq_false c, decide_eq_false (fun q => c (e32_inj a1 b1 (this.mp (lg0.mpr q))))]
/-- a QUEUE as it is told -/
abbrev It : Type := List Nat × Nat × Nat × Nat × Nat
abbrev Pl : Type := List (List Nat) × List (List Nat × Nat) × List It × Nat × List Op × Bool × Bool
def pH (P : Pl) : List (List Nat) := P.1
def pS (P : Pl) : List (List Nat × Nat) := P.2.1
def pI (P : Pl) : List It := P.2.2.1
def pSh (P : Pl) : Nat := P.2.2.2.1
def pLw (P : Pl) : List Op := P.2.2.2.2.1
def pFs (P : Pl) : Bool := P.2.2.2.2.2.1
def pFg (P : Pl) : Bool := P.2.2.2.2.2.2
def pSn (P : Pl) : List (List Nat) := (pS P).map (fun x => x.1)
def pIn (P : Pl) : List (List Nat) := (pI P).map (fun x => x.1)
def toldP (P : Pl) (t : Tk) : Bool := (idN (pH P) t).isSome || ((idN (pSn P) t).isSome || (idN (pIn P) t).isSome)
def itO : It := ([], 0, 0, 1, 0)
def PlC (h : pm_H) (b : Nat) (P : Pl) : Prop := NmC h (b + 1) (pH P) ∧ NmC h (b + 3) (pSn P) ∧ NmC h (b + 5) (pIn P) ∧ (∀ i, i < (pS P).length → gi h (b + 8) i = nI ((pS P).getD i ([], 0)).2) ∧ (∀ i, i < (pI P).length → gi h (b + 10) i = nI ((pI P).getD i itO).2.1 ∧ gi h (b + 12) i = nI ((pI P).getD i itO).2.2.2.2 ∧ gf h (b + 13) i = UInt32.ofNat (keyS ((pI P).getD i itO).2.1 ((pI P).getD i itO).2.2.1 ((pI P).getD i itO).2.2.2.1)) ∧ gi h (b + 14) 1 = nI (pLw P).length ∧ CO (gi h (b + 16)) 0 (pLw P) ∧ gi h b 8 = nI (pSh P)
def PlO (P : Pl) : Prop := NmO (pH P) ∧ NmO (pSn P) ∧ NmO (pIn P) ∧ (pH P).length ≤ 3 ∧ (pS P).length ≤ 2 ∧ (pI P).length ≤ 20 ∧ (∀ x ∈ pS P, x.2 < 4) ∧ (∀ x ∈ pI P, x.2.1 < 4 ∧ x.2.2.1 < 1000 ∧ 0 < x.2.2.2.1 ∧ x.2.2.2.1 < 100 ∧ x.2.2.2.2 < (pH P).length) ∧ (pLw P).length ≤ 1000 ∧ (pLw P ≠ [] → okO (pLw P) 0) ∧ pSh P ≤ 6
def PlF (h : pm_H) (P : Pl) : Prop := gi h 55 3 = b2i (pFs P) ∧ gi h 55 4 = b2i (pFg P)
theorem La.pl {h : pm_H} (hL : La h) : h.1[22]? = some (0, 4) ∧ gp h 22 0 = 23 ∧ gp h 22 1 = 25 ∧ gp h 22 2 = 27 ∧ (h.1[23]? = some (0, 3) ∧ gp h 23 0 = 24 ∧ h.1[24]? = some (2, 3)) ∧ (h.1[25]? = some (0, 3) ∧ gp h 25 0 = 26 ∧ h.1[26]? = some (2, 2)) ∧ (h.1[27]? = some (0, 3) ∧ gp h 27 0 = 28 ∧ h.1[28]? = some (2, 20)) :=
  ⟨hL.k (by decide +kernel), hL.p (by decide +kernel) (by omega), hL.p (by decide +kernel) (by omega), hL.p (by decide +kernel) (by omega), ⟨hL.k (by decide +kernel), hL.p (by decide +kernel) (by omega), hL.k (by decide +kernel)⟩, ⟨hL.k (by decide +kernel), hL.p (by decide +kernel) (by omega), hL.k (by decide +kernel)⟩, ⟨hL.k (by decide +kernel), hL.p (by decide +kernel) (by omega), hL.k (by decide +kernel)⟩⟩
theorem oI_m1 {o : Option Nat} (h : ∀ x, o = some x → x < 2 ^ 31) : (oI o = -1 ↔ o.isSome = false) := by
  cases o with
  | none => exact ⟨fun _ => rfl, fun _ => rfl⟩
  | some x => exact ⟨fun q => absurd q (nI_nm1 (h x rfl)), fun q => by cases q⟩
theorem idN_lt {ns : List (List Nat)} {t : Tk} {x : Nat} (h : idN ns t = some x) : x < ns.length := (fnd_lt h).1
theorem s_isTold {P : Pl} {t : Tk} {Q : Int32 → pm_H → Prop} (hL : La h) (hP : PlC h 22 P) (hO : PlO P) (ht : TkO t) (h1 : t.2.1 = 1) (w : Q (b2i (toldP P t)) h) : ci G (d + 2) m_X4_isTold [.ref 22, .long (lN (e32 t.2.2))] h Q := by
  obtain ⟨l1, l2, l3, l4, ⟨n1, n2, n3⟩, ⟨m1, m2, m3⟩, ⟨o1, o2, o3⟩⟩ := hL.pl
  obtain ⟨p1, p2, p3, -⟩ := hP
  obtain ⟨q1, q2, q3, q4, q5, q6, -⟩ := hO
  have lS : (pSn P).length = (pS P).length := List.length_map _
  have lI : (pIn P).length = (pI P).length := List.length_map _
  unfold toldP at w
  have lt : ∀ ns : List (List Nat), ns.length ≤ 20 → ∀ x, idN ns t = some x → x < 2 ^ 31 := fun ns hn x hx => by have := idN_lt hx; omega
  refine ci_wp rfl (Nat.le_of_ble_eq_true rfl) rfl (x_X4_isTold ⟨l1, ?_⟩)
  rw [l2]
  refine ⟨n1, s_find (d := d) n1 n2 n3 p1.1 (by omega) (by decide) ?_⟩
  rw [find_is p1 q1 ht h1]
  by_cases c1 : (idN (pH P) t).isSome = false
  · rw [if_pos ((oI_m1 (lt _ (by omega))).mpr c1)]
    rw [c1, Bool.false_or] at w
    refine ⟨l1, ?_⟩
    rw [l3]
    refine ⟨m1, s_find (d := d) m1 m2 m3 p2.1 (by omega) (by decide) ?_⟩
    rw [find_is p2 q2 ht h1]
    by_cases c2 : (idN (pSn P) t).isSome = false
    · rw [if_pos ((oI_m1 (lt _ (by omega))).mpr c2)]
      rw [c2, Bool.false_or] at w
      refine ⟨l1, ?_⟩
      rw [l4]
      refine ⟨o1, s_find (d := d) o1 o2 o3 p3.1 (by omega) (by decide) ?_⟩
      rw [find_is p3 q3 ht h1]
      by_cases c3 : (idN (pIn P) t).isSome = false
      · rw [if_pos ((oI_m1 (lt _ (by omega))).mpr c3)]
        rw [c3] at w
        exact ⟨_, rfl, w⟩
      · rw [if_neg (fun q => c3 ((oI_m1 (lt _ (by omega))).mp q))]
        rw [show (idN (pIn P) t).isSome = true from btrue c3] at w
        exact ⟨_, rfl, w⟩
    · rw [if_neg (fun q => c2 ((oI_m1 (lt _ (by omega))).mp q))]
      rw [show (idN (pSn P) t).isSome = true from btrue c2, Bool.true_or] at w
      exact ⟨_, rfl, w⟩
  · rw [if_neg (fun q => c1 ((oI_m1 (lt _ (by omega))).mp q))]
    rw [show (idN (pH P) t).isSome = true from btrue c1, Bool.true_or] at w
    exact ⟨_, rfl, w⟩
theorem nameT_sort {t : Tk} (h : nameT t = true) : t.2.1 = 1 := by unfold nameT at h; rw [Bool.and_eq_true, decide_eq_true_iff] at h; exact h.1
theorem s_newName {P : Pl} {Q : Int64 → pm_H → Prop} (hL : La h) (hC : CS h tx s) (hP : PlC h 22 P) (hO : PlO P) (w : ∀ h' V, FrD h h' → CS h' tx (stp (newK (toldP P (hdT s.2)) (hdT s.2)) s) → (nameT (hdT s.2) = true → V = lN (e32 (hdT s.2).2.2)) → Q V h') : cl G (d + 5) m_X5_newName [.ref 55, .ref 22] h Q := by
  obtain ⟨r1, r2, r3⟩ := hL.rdr
  obtain ⟨r, e1, e2, hf⟩ := hC.2.2.2.1.at
  have ho := hC.2.2.2.2.1.at.1
  unfold newK at w
  refine cl_wp rfl (Nat.le_of_ble_eq_true rfl) rfl (x_X5_newName ⟨r1, ?_⟩)
  rw [r2]
  refine ⟨hL.tap.1, s_isName (d := d + 3) hL hC ?_⟩
  by_cases c : nameT (hdT s.2) = true
  · have s1 := nameT_sort c
    have v := hf.2.2.2.1 s1
    rw [if_neg (by rw [c]; decide)] at w
    rw [c, if_neg (show ¬ b2i true = 0 by decide), v]
    refine ⟨hL.pl.1, s_isTold (d := d + 2) hL hP hO ho s1 ?_⟩
    by_cases t : toldP P (hdT s.2) = true
    · rw [if_pos t] at w
      rw [t, if_neg (show ¬ b2i true = 0 by decide)]
      exact ⟨r1, s_fp (d := d) (k := 3) hL hC (by decide) (fun q => by cases q) (fun h' a b => ⟨_, rfl, w h' _ a b (fun _ => rfl)⟩)⟩
    · rw [if_neg t] at w
      rw [show toldP P (hdT s.2) = false by simpa using t, if_pos (show b2i false = 0 from rfl)]
      exact ⟨r1, s_fp (d := d) (k := 0) hL hC (by decide) (fun _ _ => by rw [s1]; decide) (fun h' a b => ⟨_, rfl, w h' _ a b (fun _ => rfl)⟩)⟩
  · have c : nameT (hdT s.2) = false := by simpa using c
    rw [if_pos c] at w
    rw [c, if_pos (show b2i false = 0 from rfl)]
    exact ⟨r1, s_fp (d := d) (k := 1) hL hC (by decide) (fun q => by cases q) (fun h' a b => ⟨_, rfl, w h' _ a b (fun q => by rw [c] at q; cases q)⟩)⟩
theorem s_oldName {o m : Nat} {ns : List (List Nat)} {but : Option Nat} {Q : Int32 → pm_H → Prop} (hL : La h) (hC : CS h tx s) (h1 : h.1[o]? = some (0, 3)) (h2 : gp h o 0 = o + 1) (h3 : h.1[o + 1]? = some (2, m)) (hN : NmC h o ns) (hO : NmO ns) (hm : ns.length ≤ m) (hm2 : m < 1000) (hb : ∀ x, but = some x → x < 1000) (w : ∀ h' r, FrD h h' → CS h' tx (stp (oldK ns but (hdT s.2)) s) → (nameT (hdT s.2) = true → r = oI (idN ns (hdT s.2))) → Q r h') : ci G (d + 5) m_X5_oldName [.ref 55, .ref o, .int (oI but)] h Q := by
  obtain ⟨r1, r2, r3⟩ := hL.rdr
  obtain ⟨r, e1, e2, hf⟩ := hC.2.2.2.1.at
  have ho := hC.2.2.2.2.1.at.1
  unfold oldK at w
  refine ci_wp rfl (Nat.le_of_ble_eq_true rfl) rfl (x_X5_oldName ⟨r1, ?_⟩)
  rw [r2]
  refine ⟨hL.tap.1, h1, s_find (d := d + 3) h1 h2 h3 hN.1 hm hm2 ⟨r1, s_isName (d := d + 3) hL hC ?_⟩⟩
  by_cases c : nameT (hdT s.2) = true
  · have s1 := nameT_sort c
    have v := hf.2.2.2.1 s1
    rw [if_neg (by rw [c]; decide)] at w
    rw [c, if_neg (show ¬ b2i true = 0 by decide), v, find_is hN hO ho s1]
    have lt : ∀ x, idN ns (hdT s.2) = some x → x < 2 ^ 31 := fun x hx => by have := idN_lt hx; omega
    by_cases z : idN ns (hdT s.2) = none
    · rw [if_pos z] at w
      rw [z, if_pos (show oI none = -1 from rfl)]
      exact ⟨r1, s_fp (d := d) (k := 2) hL hC (by decide) (fun q => by cases q) (fun h' a b => ⟨_, rfl, w h' _ a b (fun _ => by rw [z])⟩)⟩
    · rw [if_neg z] at w
      rw [if_neg (fun q => z (by have := (oI_m1 lt).mp q; cases hz : idN ns (hdT s.2) with | none => rfl | some y => rw [hz] at this; cases this))]
      by_cases y : idN ns (hdT s.2) = but
      · rw [if_pos y] at w
        rw [y, if_pos rfl]
        exact ⟨r1, s_fp (d := d) (k := 3) hL hC (by decide) (fun q => by cases q) (fun h' a b => ⟨_, rfl, w h' _ a b (fun _ => by rw [y])⟩)⟩
      · rw [if_neg y] at w
        rw [if_neg (fun q => y (by
          cases hz : idN ns (hdT s.2) with
          | none => exact absurd hz z
          | some x =>
            have lx := lt x hz
            rw [hz] at q
            cases hb2 : but with
            | none => rw [hb2] at q; exact absurd q (nI_nm1 lx)
            | some u =>
              have lu := hb u hb2
              rw [hb2] at q
              rw [(nI_inj lx (show u < 2 ^ 31 by omega)).mp q]))]
        exact ⟨r1, s_fp (d := d) (k := 0) hL hC (by decide) (fun _ _ => by rw [s1]; decide) (fun h' a b => ⟨_, rfl, w h' _ a b (fun _ => rfl)⟩)⟩
  · have c : nameT (hdT s.2) = false := by simpa using c
    rw [if_pos c] at w
    rw [c, if_pos (show b2i false = 0 from rfl)]
    exact ⟨r1, s_fp (d := d) (k := 1) hL hC (by decide) (fun q => by cases q) (fun h' a b => ⟨_, rfl, w h' _ a b (fun q => by rw [c] at q; cases q)⟩)⟩
theorem s_toldKind {Q : Int32 → pm_H → Prop} (hL : La h) (hC : CS h tx s) (w : ∀ h', FrD h h' → CS h' tx (stp (if kdT (hdT s.2) = none then 1 else 0) s) → Q (oI (kdT (hdT s.2))) h') : ci G (d + 5) m_X5_toldKind [.ref 55] h Q := by
  obtain ⟨r1, r2, r3⟩ := hL.rdr
  obtain ⟨r, e1, e2, hf⟩ := hC.2.2.2.1.at
  have f3 : gp h 1 5 = 1000 + wcl (hdT s.2) := hf.2.2.1
  obtain ⟨g1, -⟩ := wd_fact (wcl (hdT s.2)) (List.mem_range.mpr (wcl_lt _))
  obtain ⟨-, g2⟩ := wd_free (wcl (hdT s.2)) (List.mem_range.mpr (wcl_lt _))
  have g2 : (pm_wd.getD (wcl (hdT s.2)) ("", 0, 0, 0, 0)).2.2.2.1 = oI (kdT (hdT s.2)) := g2
  refine ci_wp rfl (Nat.le_of_ble_eq_true rfl) rfl (x_X5_toldKind ⟨r1, ?_⟩)
  rw [r2]
  refine ⟨hL.tap.1, wcl (hdT s.2), _, g1, f3, ?_⟩
  rw [g2]
  have lt : ∀ x, kdT (hdT s.2) = some x → x < 2 ^ 31 := by
    intro x hx
    unfold kdT at hx
    split at hx
    · cases hx; decide
    · split at hx
      · cases hx; decide
      · split at hx
        · cases hx; decide
        · split at hx
          · cases hx; decide
          · cases hx
  by_cases z : kdT (hdT s.2) = none
  · rw [if_pos z] at w
    rw [if_pos (show oI (kdT (hdT s.2)) = -1 by rw [z]; rfl)]
    exact s_fp (d := d) (k := 1) hL hC (by decide) (fun q => by cases q) (fun h' a b => ⟨_, rfl, w h' a b⟩)
  · rw [if_neg z] at w
    rw [if_neg (fun q => z (by have := (oI_m1 lt).mp q; cases hz : kdT (hdT s.2) with | none => rfl | some y => rw [hz] at this; cases this))]
    refine s_fp (d := d) (k := 0) hL hC (by decide) (fun _ _ q => z ?_) (fun h' a b => ⟨_, rfl, w h' a b⟩)
    have : wcl (hdT s.2) = 0 := if_neg (by omega)
    unfold kdT
    rw [this]; rfl
theorem s_toldNumber {lo hi : Nat} {Q : Int32 → pm_H → Prop} (hL : La h) (hC : CS h tx s) (hlo : lo < 10000) (hhi : hi < 10000) (w : ∀ h' r, FrD h h' → CS h' tx (stp (numK lo hi (hdT s.2)) s) → (tN (hdT s.2) = true → r = nI (nmv (hdT s.2).2.2)) → Q r h') : ci G (d + 5) m_X5_toldNumber [.ref 55, .int (nI lo), .int (nI hi)] h Q := by
  obtain ⟨r1, r2, r3⟩ := hL.rdr
  obtain ⟨r, e1, e2, hf⟩ := hC.2.2.2.1.at
  have ho := hC.2.2.2.2.1.at.1
  unfold numK at w
  refine ci_wp rfl (Nat.le_of_ble_eq_true rfl) rfl (x_X5_toldNumber ⟨r1, ?_⟩)
  rw [r2, hf.1, hf.2.2.2.2.1]
  refine ⟨hL.tap.1, ?_⟩
  by_cases c : (hdT s.2).2.1 = 2
  · have tn : tN (hdT s.2) = true := decide_eq_true c
    have nm := ho.2.1 c
    rw [if_neg (by rw [tn]; decide)] at w
    rw [if_pos (show nI (hdT s.2).2.1 = 2 by rw [c]; rfl), if_pos c]
    have l1 := nI_ltI (a := nmv (hdT s.2).2.2) (b := lo) (by omega) (by omega)
    have l2 := nI_leI (a := nmv (hdT s.2).2.2) (b := hi) (by omega) (by omega)
    by_cases x1 : nmv (hdT s.2).2.2 < lo
    · rw [if_pos (Or.inl x1)] at w
      rw [if_pos (l1.mpr x1)]
      exact s_fp (d := d) (k := 4) hL hC (by decide) (fun q => by cases q) (fun h' a b => ⟨_, rfl, w h' _ a b (fun _ => rfl)⟩)
    · rw [if_neg (fun q => x1 (l1.mp q))]
      by_cases x2 : nmv (hdT s.2).2.2 ≤ hi
      · rw [if_neg (by omega)] at w
        rw [if_pos (l2.mpr x2)]
        exact s_fp (d := d) (k := 0) hL hC (by decide) (fun _ _ => by rw [c]; decide) (fun h' a b => ⟨_, rfl, w h' _ a b (fun _ => rfl)⟩)
      · rw [if_pos (by omega)] at w
        rw [if_neg (fun q => x2 (l2.mp q))]
        exact s_fp (d := d) (k := 4) hL hC (by decide) (fun q => by cases q) (fun h' a b => ⟨_, rfl, w h' _ a b (fun _ => rfl)⟩)
  · have tn : tN (hdT s.2) = false := decide_eq_false c
    have so := ho.2.2.2.2
    rw [if_pos tn] at w
    rw [if_neg (show ¬ nI (hdT s.2).2.1 = 2 from fun q => c ((nI_inj (b := 2) (show (hdT s.2).2.1 < 2 ^ 31 by omega) (by decide)).mp q))]
    exact s_fp (d := d) (k := 1) hL hC (by decide) (fun q => by cases q) (fun h' a b => ⟨_, rfl, w h' _ a b (fun q => by rw [tn] at q; cases q)⟩)
end RDR
