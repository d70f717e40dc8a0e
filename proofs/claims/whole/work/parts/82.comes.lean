/-! all of a HEAP, as they come -/
def comF (lt : Nat → Nat → Bool) (a : Nat) : Nat → AF → List Nat
  | 0, _ => []
  | n + 1, A => match takeA lt A a with
    | none => []
    | some (t, A') => t :: comF lt a n A'
def inHp (A : AF) (a : Nat) (t : Nat) : Bool := decide (A.2.1 t = nI a)
theorem lrF_none {lt : Nat → Nat → Bool} {hs : Hs} {a : Nat} : ∀ {n : Nat}, lrF lt hs a n = none → ∀ r, r < n → isL (hs (24 * a + r)) = true
  | 0, _, r, hr => absurd hr (Nat.not_lt_zero _)
  | n + 1, h, r, hr => by
    rw [lrF] at h
    split at h
    next c =>
      by_cases e : r = n
      · rw [e]; exact c
      · exact lrF_none h r (by omega)
    next c =>
      split at h
      · cases h
      · split at h <;> cases h
theorem takeA_none {lt : Nat → Nat → Bool} {A : AF} {w a : Nat} (h : okA A w) (ha : a < 3) (e : takeA lt A a = none) : ∀ t, t < 20 → inHp A a t = false := by
  intro t ht
  unfold takeA at e
  split at e
  next q =>
    refine decide_eq_false fun c => ?_
    obtain ⟨r, hr, hm⟩ := (h.2.2 t a ht ha).mp c
    rw [isL_leaf (lrF_none q r hr)] at hm
    cases hm
  next => cases e
theorem cnt_pos {p : Nat → Bool} {n x : Nat} (hx : x < n) (h : p x = true) : 0 < cnt p n := by
  have := cnt_lt (p := fun _ => false) (q := p) (n := n) (x := x) (fun j _ hj => by cases hj) hx rfl h
  omega
theorem cnt_0 {p : Nat → Bool} {n : Nat} (h : ∀ x, x < n → p x = false) : cnt p n = 0 := by
  have := cnt_N (p := p) (N := 0) n (fun u _ hu => h u (by omega))
  rw [Nat.zero_add] at this
  exact this
theorem takeA_some {lt : Nat → Nat → Bool} {A A' : AF} {w a t : Nat} (h : okA A w) (ha : a < 3) (hw : w ≤ 1000) (e : takeA lt A a = some (t, A')) : okA A' w ∧ t < 20 ∧ inHp A a t = true ∧ cnt (inHp A' a) 20 + 1 = cnt (inHp A a) 20 ∧ (∀ u, u < 20 → (inHp A a u = true ↔ u = t ∨ inHp A' a u = true)) ∧ inHp A' a t = false := by
  obtain ⟨h1, h2, h3, h4, h5⟩ := okA_take h ha hw e
  have i1 : inHp A a t = true := decide_eq_true h3
  have i2 : inHp A' a t = false := by
    unfold inHp
    rw [h4, up1_at]
    exact decide_eq_false fun q => nI_nm1 (by omega) q.symm
  have i3 : ∀ u, u ≠ t → inHp A' a u = inHp A a u := by
    intro u hu
    unfold inHp
    rw [h4, up1_ne _ _ hu]
  refine ⟨h1, h2, i1, ?_, fun u hu => ⟨fun q => ?_, fun q => ?_⟩, i2⟩
  · have key : ∀ n, t < n → cnt (inHp A' a) n + 1 = cnt (inHp A a) n := by
      intro n
      induction n with
      | zero => intro q; exact absurd q (Nat.not_lt_zero _)
      | succ n ih =>
        intro q
        by_cases c : t = n
        · subst c
          rw [cnt_step i1, cnt_skip i2, cnt_congr fun j hj => i3 j (by omega)]
        · have := ih (by omega)
          show cnt (inHp A' a) n + _ + 1 = cnt (inHp A a) n + _
          rw [i3 n (fun z => c z.symm)]
          omega
    exact key 20 h2
  · by_cases c : u = t
    · exact Or.inl c
    · exact Or.inr (by rw [i3 u c]; exact q)
  · by_cases c : u = t
    · rw [c]; exact i1
    · rw [← i3 u c]; exact q.resolve_left c
theorem comF_ok {lt : Nat → Nat → Bool} {w a : Nat} (ha : a < 3) (hw : w ≤ 1000) : ∀ (n : Nat) (A : AF), okA A w → cnt (inHp A a) 20 ≤ n → (comF lt a n A).Nodup ∧ (∀ t, t ∈ comF lt a n A ↔ t < 20 ∧ inHp A a t = true) ∧ (comF lt a n A).length = cnt (inHp A a) 20
  | 0, A, h, hn => by
    have z : ∀ t, t < 20 → inHp A a t = false := fun t ht => by
      cases c : inHp A a t with
      | false => rfl
      | true => have := cnt_pos ht c; omega
    refine ⟨List.nodup_nil, fun t => ⟨fun q => (by cases q), fun q => ?_⟩, ?_⟩
    · rw [z t q.1] at q; cases q.2
    · show 0 = _; omega
  | n + 1, A, h, hn => by
    rw [comF]
    cases e : takeA lt A a with
    | none =>
      have z := takeA_none h ha e
      refine ⟨List.nodup_nil, fun t => ⟨fun q => (by cases q), fun q => ?_⟩, (cnt_0 z).symm⟩
      rw [z t q.1] at q; cases q.2
    | some p =>
      obtain ⟨t, A'⟩ := p
      obtain ⟨h1, h2, h3, h4, h5, h6⟩ := takeA_some h ha hw e
      obtain ⟨g1, g2, g3⟩ := comF_ok ha hw n A' h1 (by omega)
      refine ⟨List.nodup_cons.mpr ⟨fun q => ?_, g1⟩, fun u => ?_, ?_⟩
      · rw [(g2 t).mp q |>.2] at h6; cases h6
      · show u ∈ t :: comF lt a n A' ↔ _
        rw [List.mem_cons, g2 u]
        constructor
        · rintro (q | q)
          · rw [q]; exact ⟨h2, h3⟩
          · exact ⟨q.1, (h5 u q.1).mpr (Or.inr q.2)⟩
        · rintro ⟨q1, q2⟩
          exact ((h5 u q1).mp q2).imp id fun z => ⟨q1, z⟩
      · show (comF lt a n A').length + 1 = _
        omega
theorem cnt20 (p : Nat → Bool) : cnt p 20 ≤ 20 := cnt_le p 20
abbrev comL (lt : Nat → Nat → Bool) (a : Nat) (A : AF) : List Nat := comF lt a 20 A
/-! the class's trial -/
/-- outside the trial all stays -/
def TX (M M' : Nat → Nat → Int32) : Prop := ∀ b, (b < 90 ∨ 128 ≤ b ∨ b = 94 ∨ b = 96) → b ≠ 21 → M' b = M b
/-- the same, but for what is chosen, what kinds come -/
def TY (M M' : Nat → Nat → Int32) : Prop := ∀ b, (b < 90 ∨ 128 ≤ b) → b ≠ 21 → M' b = M b
theorem TY.rfl' {M : Nat → Nat → Int32} : TY M M := fun _ _ _ => rfl
theorem TY.trans {M M1 M2 : Nat → Nat → Int32} (h1 : TY M M1) (h2 : TY M1 M2) : TY M M2 := fun b hb h => (h2 b hb h).trans (h1 b hb h)
theorem TX.ty {M M' : Nat → Nat → Int32} (h : TX M M') : TY M M' := fun b hb h21 => h b (by omega) h21
theorem TY.u {M : Nat → Nat → Int32} {b k : Nat} {v : Int32} (h : 90 ≤ b ∧ b < 128) : TY M (pm_u M b k v) := fun c hc _ => pm_u_ne _ _ _ (by omega)
theorem TX.rfl' {M : Nat → Nat → Int32} : TX M M := fun _ _ _ => rfl
theorem TX.trans {M M1 M2 : Nat → Nat → Int32} (h1 : TX M M1) (h2 : TX M1 M2) : TX M M2 := fun b hb h => (h2 b hb h).trans (h1 b hb h)
theorem FX.tx {M M' : Nat → Nat → Int32} (h : FX M M' 97) : TX M M' := fun b hb h21 => h b (fun q hq => by omega) h21
theorem TX.u {M : Nat → Nat → Int32} {b k : Nat} {v : Int32} (h : 90 ≤ b ∧ b < 128 ∧ b ≠ 94 ∧ b ≠ 96) : TX M (pm_u M b k v) := fun c hc _ => pm_u_ne _ _ _ (by omega)
def Ord (M : Nat → Nat → Int32) (l : List Nat) : Prop := M 90 3 = nI l.length ∧ (∀ i, i < l.length → M 92 i = nI (l.getD i 0)) ∧ ∀ i, l.length ≤ i → i < 20 → M 92 i = -1
theorem CF.keep {M M' : Nat → Nat → Int32} {f : Nat} {A : AF} (h : CF M f A) (hM : ∀ q, 1 ≤ q ∧ q ≤ 15 → M' (f + 2 * q) = M (f + 2 * q)) : CF M' f A := CF.move (g := f) (fun q j hq _ => congrFun (hM q hq) j) h
theorem CF.up {M : Nat → Nat → Int32} {f b k : Nat} {v : Int32} {A : AF} (h : CF M f A) (hb : ∀ q, 1 ≤ q ∧ q ≤ 15 → b ≠ f + 2 * q) : CF (pm_u M b k v) f A := h.keep fun q hq => pm_u_ne _ _ _ (fun z => hb q hq z.symm)
theorem getD_app {l : List Nat} {t i : Nat} : (l ++ [t]).getD i 0 = if i < l.length then l.getD i 0 else if i = l.length then t else 0 := by
  simp only [List.getD_eq_getElem?_getD]
  by_cases c : i < l.length
  · rw [if_pos c, List.getElem?_append_left c]
  · rw [if_neg c]
    by_cases c2 : i = l.length
    · rw [if_pos c2, c2]; simp
    · rw [if_neg c2, List.getElem?_eq_none (by simp; omega)]; rfl
theorem Ord.more {M : Nat → Nat → Int32} {l : List Nat} {t : Nat} (h : Ord M l) (hl : l.length < 20) : Ord (pm_u (pm_u M 92 l.length (nI t)) 90 3 (nI (l.length + 1))) (l ++ [t]) := by
  refine ⟨?_, fun i hi => ?_, fun i hi h20 => ?_⟩
  · rw [pm_u_at, List.length_append]
    exact if_pos rfl
  · rw [pm_u_ne _ _ _ (by decide), pm_u_at, getD_app]
    rw [List.length_append, List.length_singleton] at hi
    unfold pm_ui
    by_cases c : i = l.length
    · rw [if_pos c, if_neg (by omega), if_pos c]
    · rw [if_neg c, if_pos (by omega)]
      exact h.2.1 i (by omega)
  · rw [List.length_append, List.length_singleton] at hi
    rw [pm_u_ne _ _ _ (by decide), pm_u_at]
    unfold pm_ui
    rw [if_neg (by omega)]
    exact h.2.2 i (by omega) h20
theorem FLs_sep : ∀ f ∈ FLs, f ≠ 97 → (97 + 30 < f ∨ f + 30 < 97) ∧ (f + 26 < 90 ∨ 128 ≤ f + 26) := by decide
section TRI
variable {G : pm_G} {d : Nat} {h : pm_H}
theorem La.tri (hL : La h) : h.1[90]? = some (0, 8) ∧ gp h 90 0 = 3 ∧ gp h 90 1 = 97 ∧ gp h 90 2 = 91 ∧ gp h 90 4 = 93 ∧ gp h 90 5 = 95 ∧ Ro h 91 92 20 ∧ Ro h 93 94 20 ∧ Ro h 95 96 30 ∧ Fa h 97 :=
  ⟨hL.k (by decide +kernel), hL.p (by decide +kernel) (by omega), hL.p (by decide +kernel) (by omega), hL.p (by decide +kernel) (by omega), hL.p (by decide +kernel) (by omega), hL.p (by decide +kernel) (by omega), hL.ro (by decide +kernel) (by decide +kernel) (by decide +kernel) (by decide), hL.ro (by decide +kernel) (by decide +kernel) (by decide +kernel) (by decide), hL.ro (by decide +kernel) (by decide +kernel) (by decide +kernel) (by decide), fa_of hL (by decide)⟩
theorem s_takeLoop {post : pm_PT} {lt : Nat → Nat → Bool} {a w : Nat} (hlt : lt = kLt (gf h 16)) (hL : La h) (ha : a < 3) (hw : w ≤ 1000) : ∀ (n : Nat) (A : AF) (pre : List Nat) (M : Nat → Nat → Int32), okA A w → CF M 97 A → pre.length + n = 20 → cnt (inHp A a) 20 ≤ n → Ord M pre → TX (gi h) M → (∀ M', Ord M' (pre ++ comF lt a n A) → TX (gi h) M' → post none (sm h M')) → Wp G (m_X8_takeAll, d + 5, 0, 0, post) (0, 0) 23 [.ref 90, .null, .int (nI a), .int (nI pre.length), .null] [] (sm h M)
  | 0, A, pre, M, _, _, hn, _, hO, hX, k => by
    refine x_X8_takeAll_23 ?_
    rw [if_pos (show (20 : Int32) ≤ nI pre.length by rw [show pre.length = 20 by omega]; exact li_yes 20 20 rfl)]
    refine k M ?_ hX
    rw [show comF lt a 0 A = [] from rfl, List.append_nil]
    exact hO
  | n + 1, A, pre, M, hA, hC, hn, hcn, hO, hX, k => by
    obtain ⟨t0, t1, t2, t3, t4, t5, t6, t7, t8, t9⟩ := hL.tri
    refine x_X8_takeAll_23 ?_
    rw [if_neg (li_no 20 20 rfl (show pre.length < 20 by omega) (by decide))]
    have g1 : gp (sm h M) 90 1 = 97 := t2
    rw [g1]
    have hF : Fa (sm h M) 97 := t9
    refine ⟨t0, t9.1, s_takeFrom (h := sm h M) hF hL.lw.1 ha hw hA hC (fun e => ?_) (fun t A' e M2 hC2 hX2 => ?_)⟩
    · rw [if_pos rfl]
      refine k M ?_ hX
      have e : takeA lt A a = none := by rw [hlt]; exact e
      rw [show comF lt a (n + 1) A = [] by rw [comF, e], List.append_nil]
      exact hO
    · have e : takeA lt A a = some (t, A') := by rw [hlt]; exact e
      obtain ⟨o1, o2, o3, o4, o5, o6⟩ := takeA_some hA ha hw e
      rw [if_neg (nI_nm1 (by omega))]
      have e90 : M2 90 = M 90 := hX2 90 (fun q hq => by omega) (by decide)
      have e92 : M2 92 = M 92 := hX2 92 (fun q hq => by omega) (by decide)
      have g2 : gp (sm h M2) 90 2 = 91 := t3
      have g3 : gi (sm h M2) 90 3 = nI pre.length := by show M2 90 3 = _; rw [e90]; exact hO.1
      rw [show gp (sm (sm h M) M2) 90 2 = 91 from t3, show gi (sm (sm h M) M2) 90 3 = nI pre.length from g3]
      have r91 : Ro (sm h M2) 91 92 20 := t6
      refine ⟨t0, t6.1, row_set (h := sm h M2) r91 ?_⟩
      rw [wr_in (show pre.length < 20 by omega) (by decide)]
      refine ⟨t0, ?_⟩
      rintro _ rfl
      have hO2 : Ord M2 pre := ⟨by rw [e90]; exact hO.1, by rw [e92]; exact hO.2.1, by rw [e92]; exact hO.2.2⟩
      have e3 : gi (sm (sm h M2) (pm_u (gi (sm h M2)) 92 pre.length (nI t))) 90 3 = nI pre.length := by
        show pm_u M2 92 pre.length (nI t) 90 3 = _
        rw [pm_u_ne _ _ _ (by decide)]; exact g3
      rw [e3, nI_1]
      have K := s_takeLoop (post := post) hlt hL ha hw n A' (pre ++ [t]) (pm_u (pm_u M2 92 pre.length (nI t)) 90 3 (nI (pre.length + 1))) o1 ((hC2.up (fun q hq => by omega)).up (fun q hq => by omega)) (by rw [List.length_append, List.length_singleton]; omega) (by omega) (hO2.more (by omega)) (hX.trans (hX2.tx.trans ((TX.u (by decide)).trans (TX.u (by decide))))) (fun M' hO' hX' => k M' (by
        rw [comF, e]
        rw [List.append_assoc, List.singleton_append] at hO'
        exact hO') hX')
      rw [List.length_append, List.length_singleton] at K
      exact K
theorem s_takeAll {Q : pm_H → Prop} {f a w : Nat} {A : AF} (hL : La h) (hf : f ∈ FLs) (hf2 : f ≠ 97) (ha : a < 3) (hw : w ≤ 1000) (hA : okA A w) (hC : CF (gi h) f A) (k : ∀ M', Ord M' (comL (kLt (gf h 16)) a A) → TX (gi h) M' → Q (sm h M')) : cv G (d + 5) m_X8_takeAll [.ref 90, .ref f, .int (nI a)] h Q := by
  obtain ⟨t0, t1, t2, t3, t4, t5, t6, t7, t8, t9⟩ := hL.tri
  have sep : 97 + 30 < f ∨ f + 30 < 97 := (FLs_sep f hf hf2).1
  refine cv_wp rfl (Nat.le_of_ble_eq_true rfl) rfl (x_X8_takeAll ?_)
  rw [t2]
  refine ⟨t0, t9.1, s_copyFrom (d := d + 2) t9 (fa_of hL hf) sep hC (fun M1 hC1 hX1 => ?_)⟩
  have g2 : gp (sm h M1) 90 2 = 91 := t3
  rw [g2]
  have r91 : Ro (sm h M1) 91 92 20 := t6
  refine ⟨t0, t6.1, row_fill (h := sm h M1) r91 ⟨t0, ?_⟩⟩
  rintro _ rfl
  have K := s_takeLoop (h := h) (G := G) (d := d) (post := fun v h1 => v = none ∧ Q h1) rfl hL ha hw 20 A [] (pm_u (fillM M1 92 20 (-1)) 90 3 0) hA ((hC1.keep (fun q hq => by funext j; unfold fillM; rw [if_neg (by omega)])).up (fun q hq => by omega)) rfl (cnt20 _) ⟨by rw [pm_u_at]; exact if_pos rfl, fun i hi => absurd hi (Nat.not_lt_zero _), fun i _ hi => by rw [pm_u_ne _ _ _ (by decide)]; unfold fillM; rw [if_pos ⟨rfl, hi⟩]⟩ (hX1.tx.trans (TX.trans (M1 := fillM M1 92 20 (-1)) (fun b hb _ => by funext j; unfold fillM; rw [if_neg (by omega)]) (TX.u (by decide)))) (fun M' hO hX => ⟨rfl, k M' hO hX⟩)
  exact K
end TRI
/-! THE REFERENCE: the same -/
def co (h : pm_H) (C : Nat → Int32) : pm_H := (h.1, (fun a => if a = 461 then C else gi h a), h.2.2)
theorem co_ne (h : pm_H) (C : Nat → Int32) {a : Nat} (ha : a ≠ 461) : gi (co h C) a = gi h a := by
  show (if a = 461 then C else gi h a) = gi h a
  exact if_neg ha
theorem co_gi (h : pm_H) (C : Nat → Int32) : gi (co h C) 461 = C := by
  show (if (461 : Nat) = 461 then C else gi h 461) = C
  exact if_pos rfl
theorem co_co (h : pm_H) (C C' : Nat → Int32) : co (co h C) C' = co h C' := by
  have : (fun a => if a = 461 then C' else gi (co h C) a) = (fun a => if a = 461 then C' else gi h a) := by
    funext a
    by_cases ha : a = 461
    · rw [if_pos ha, if_pos ha]
    · rw [if_neg ha, if_neg ha]; exact co_ne h C ha
  show (h.1, _, h.2.2) = (h.1, _, h.2.2)
  rw [this]
theorem co_self (h : pm_H) : co h (gi h 461) = h := by
  have : (fun a => if a = 461 then gi h 461 else gi h a) = gi h := by
    funext a
    by_cases ha : a = 461
    · rw [if_pos ha, ha]
    · rw [if_neg ha]
  show (h.1, (fun a => if a = 461 then gi h 461 else gi h a), h.2.2) = h
  rw [this]
theorem co_si (h : pm_H) (C S F P : Nat → Int32) (i : Nat) (v : Int32) : si (s8 (fp (co h C) F P) S) 461 i v = s8 (fp (co h (up1 C i v)) F P) S := by
  have : pm_u (gi (s8 (fp (co h C) F P) S)) 461 i v = gi (s8 (fp (co h (up1 C i v)) F P) S) := by
    funext a
    by_cases h8 : a = 458
    · subst h8
      rw [pm_u_ne _ _ _ (by decide), s8_gi, s8_gi]
    · rw [s8_ne _ _ h8]
      by_cases h6 : a = 456
      · subst h6
        rw [pm_u_ne _ _ _ (by decide), s8_ne _ _ (by decide)]
        rfl
      · by_cases h7 : a = 457
        · subst h7
          rw [pm_u_ne _ _ _ (by decide), s8_ne _ _ (by decide)]
          rfl
        · rw [fp_ne _ _ _ h6 h7]
          by_cases h1 : a = 461
          · subst h1
            rw [pm_u_at, sfgi _ _ _ _ (by decide) (by decide) (by decide), co_gi, co_gi]
            rfl
          · rw [pm_u_ne _ _ _ h1, sfgi _ _ _ _ h6 h7 h8, co_ne _ _ h1, co_ne _ _ h1]
  show ((s8 (fp (co h C) F P) S).1, pm_u (gi (s8 (fp (co h C) F P) S)) 461 i v, (s8 (fp (co h C) F P) S).2.2) = s8 (fp (co h (up1 C i v)) F P) S
  rw [this]
  rfl
def OrR (C : Nat → Int32) (l : List Nat) : Prop := ∀ i, i < l.length → C i = nI (l.getD i 0)
section RCO
variable {G : pm_G} {d : Nat} {h : pm_H} {F P : Nat → Int32}
theorem La.com (hL : La h) : gp h 446 22 = 461 ∧ h.1[461]? = some (1, 20) := ⟨hL.p (by decide +kernel) (by omega), hL.k (by decide +kernel)⟩
theorem r_comesLoop {ky : Nat → Int32} {post : pm_PT} {a w : Nat} (hL : La h) (ha : a < 3) (hw : w ≤ 1000) : ∀ (n : Nat) (A : AF) (pre : List Nat) (S C : Nat → Int32), okA A w → RA ky S 3795 A → pre.length + n = 20 → cnt (inHp A a) 20 ≤ n → OrR C pre → (∀ S' C', OrR C' (pre ++ comF (rLt ky) a n A) → RZ S S' 3795 → post (some (.int (nI (pre ++ comF (rLt ky) a n A).length))) (s8 (fp (co h C') F P) S')) → Wp G (m_X12_comesOf, d + 21, 0, 0, post) (0, 0) 13 [.ref 446, .null, .int (nI a), .int (nI pre.length)] [] (s8 (fp (co h C) F P) S) := by
  intro n
  induction n with
  | zero =>
    intro A pre S C hA hC hn hcn hO k
    have z : takeA (rLt ky) A a = none := by
      cases e : takeA (rLt ky) A a with
      | none => rfl
      | some p =>
        obtain ⟨t, A'⟩ := p
        have := (takeA_some hA ha hw e).2.2.2.1
        omega
    have z2 : lrF (rLt ky) A.1 a 24 = none := by
      unfold takeA at z
      split at z
      · assumption
      · cases z
    refine x_X12_comesOf_13 ⟨hL.md.1, r_nextRoot (h := fp (co h C) F P) (ky := ky) (hs := A.1) (w := w) (d := d + 18) hL.md (by decide) ha hw hA.1 (fun r hr => hC.1.1 a r ha hr) ?_⟩
    rw [z2, show tr_no (trO A.1 a none) = -1 from rfl, if_pos (show (-1 : Int32) < 0 by decide)]
    have := k S C (by rw [show comF (rLt ky) a 0 A = [] from rfl, List.append_nil]; exact hO) RZ.rfl'
    rw [show comF (rLt ky) a 0 A = [] from rfl, List.append_nil] at this
    exact this
  | succ n ih =>
    intro A pre S C hA hC hn hcn hO k
    refine x_X12_comesOf_13 ⟨hL.md.1, r_nextRoot (h := fp (co h C) F P) (ky := ky) (hs := A.1) (w := w) (d := d + 18) hL.md (by decide) ha hw hA.1 (fun r hr => hC.1.1 a r ha hr) ?_⟩
    rw [comF] at k
    cases e2 : lrF (rLt ky) A.1 a 24 with
    | none =>
      have e : takeA (rLt ky) A a = none := by unfold takeA; rw [e2]
      rw [show tr_no (trO A.1 a none) = -1 from rfl, if_pos (show (-1 : Int32) < 0 by decide)]
      rw [e] at k
      have := k S C (by rw [List.append_nil]; exact hO) RZ.rfl'
      rw [List.append_nil] at this
      exact this
    | some r =>
      obtain ⟨q1, q2⟩ := lrF_ok e2
      obtain ⟨t, A', e⟩ : ∃ t A', takeA (rLt ky) A a = some (t, A') := ⟨_, _, by unfold takeA; rw [e2]⟩
      have r16 : r < 16 := by
        refine Classical.byContradiction fun c => ?_
        have := hA.1.high hw (q := 24 * a + r) (by omega) (by omega)
        rw [this] at q2; cases q2
      have N := (hC.1.1 a r ha r16).1
      rw [show trO A.1 a (some r) = A.1 (24 * a + r) from rfl, if_neg (fun z => by rw [N.m1.2.1, q2] at z; cases z)]
      obtain ⟨o1, o2, o3, o4, o5, o6⟩ := takeA_some hA ha hw e
      have g22 : gp (s8 (fp (co h C) F P) S) 446 22 = 461 := hL.com.1
      rw [g22]
      refine ⟨hL.md.1, r_takes (h := fp (co h C) F P) (ky := ky) (w := w) (d := d) hL.md (by decide) ha hw hA hC (fun e3 => by rw [e3] at e; cases e) (fun t2 A2 e3 S' hC' hZ => ?_)⟩
      rw [e3] at e
      obtain ⟨rfl, rfl⟩ : t2 = t ∧ A2 = A' := by cases e; exact ⟨rfl, rfl⟩
      refine ⟨20, hL.com.2, vp_nI (show pre.length < 20 by omega) (by decide), ?_⟩
      rintro _ rfl
      rw [cl_nI (show pre.length < 2 ^ 31 by omega), co_si, nI_1]
      rw [e3] at k
      have hO2 : OrR (up1 C pre.length (nI t2)) (pre ++ [t2]) := by
        intro i hi
        rw [List.length_append, List.length_singleton] at hi
        rw [getD_app]
        by_cases c : i = pre.length
        · rw [if_neg (by omega), if_pos c, c, up1_at]
        · rw [if_pos (by omega), up1_ne _ _ c]
          exact hO i (by omega)
      have K := ih A2 (pre ++ [t2]) S' (up1 C pre.length (nI t2)) o1 hC' (by rw [List.length_append, List.length_singleton]; omega) (by omega) hO2 (fun S2 C2 h1 h2 => by
        have := k S2 C2 (by rw [List.append_assoc, List.singleton_append] at h1; exact h1) (hZ.trans h2)
        rw [List.append_assoc, List.singleton_append]
        exact this)
      rw [List.length_append, List.length_singleton] at K
      exact K
theorem r_comesOf {ky S C : Nat → Int32} {Q : Int32 → pm_H → Prop} {b a w : Nat} {A : AF} (hL : La h) (hb : b + 320 ≤ 3795 ∨ b = 4140) (ha : a < 3) (hw : w ≤ 1000) (hA : okA A w) (hC : RA ky S b A) (k : ∀ S' C', OrR C' (comL (rLt ky) a A) → RZ S S' 3795 → Q (nI (comL (rLt ky) a A).length) (s8 (fp (co h C') F P) S')) : ci G (d + 21) m_X12_comesOf [.ref 446, .int (nI b), .int (nI a)] (s8 (fp (co h C) F P) S) Q := by
  refine ci_wp rfl (Nat.le_of_ble_eq_true rfl) rfl (x_X12_comesOf ⟨hL.md.1, ?_⟩)
  refine r_moves (h := fp (co h C) F P) (c := 3795) (n := 320) (a := b) (d := d + 19) hL.md (by omega) (by decide) (by omega) ?_
  have hZ : RZ S (mvS S b 3795 320) 3795 := fun i hi => if_neg (by omega)
  exact r_comesLoop (d := d) hL ha hw 20 A [] (mvS S b 3795 320) C hA (hC.move (fun i hi => mvS_at hi)) rfl (cnt20 _) (fun i hi => absurd hi (Nat.not_lt_zero _)) (fun S' C' h1 h2 => ⟨_, rfl, k S' C' h1 (hZ.trans h2)⟩)
end RCO
