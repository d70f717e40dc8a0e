/-! WORK: the words of a WORK (pure), and read by the class -/
def deK (t : Tk) : Nat := if wcl t = 8 then 0 else if wcl t = 9 then 1 else if wcl t = 10 then 2 else if wcl t = 11 then 3 else 4
def wkN (P : Pl) (k : Nat) : List (List Nat) := if k = 0 then pIn P else pH P
def wkM (P : Pl) (k : Nat) : List (List Nat) := if k = 3 then pSn P else pH P
def wkB (P : Pl) (k : Nat) (t : Tk) : Option Nat := if k = 2 then idN (pH P) t else none
def wkE (n k : Nat) : Nat := if k = 4 then 1 else if n < 30 then 0 else 5
def wk0 (n : Nat) (s : PS) : PS := stp (wkE n (deK (hdT s.2))) s
def wk1 (P : Pl) (n : Nat) (s : PS) : PS := oOld (wkN P (deK (hdT s.2))) none (wk0 n s)
def wk2 (P : Pl) (n : Nat) (s : PS) : PS := if deK (hdT s.2) = 1 then wk1 P n s else oOld (wkM P (deK (hdT s.2))) (wkB P (deK (hdT s.2)) (hdT (wk0 n s).2)) (wk1 P n s)
def wk3 (P : Pl) (n : Nat) (s : PS) : PS := sm1 (wk2 P n s)
def wkQ (P : Pl) (n : Nat) (s : PS) : Ln := (deK (hdT s.2), (idN (wkN P (deK (hdT s.2))) (hdT (wk0 n s).2)).getD 0, if deK (hdT s.2) = 1 then 0 else (idN (wkM P (deK (hdT s.2))) (hdT (wk1 P n s).2)).getD 0)
def wkL (P : Pl) : Nat → PS → List Ln → PS × List Ln
  | 0, s, W => (s, W)
  | n + 1, s, W => if s.1 = 0 ∧ (hdT s.2).2.1 ≠ 0 then wkL P n (wk3 P W.length s) (if (wk3 P W.length s).1 = 0 then W ++ [wkQ P W.length s] else W) else (s, W)
theorem deK_le (t : Tk) : deK t ≤ 4 := by
  unfold deK
  split
  · decide
  split
  · decide
  split
  · decide
  split
  · decide
  exact Nat.le_refl _
theorem deK_sort {t : Tk} (h : deK t ≠ 4) : t.2.1 = 1 := by
  by_cases c : t.2.1 = 1
  · exact c
  · have : wcl t = 0 := if_neg c
    unfold deK at h
    rw [this] at h
    exact absurd rfl h
theorem wk_0 {P : Pl} {n : Nat} {s : PS} (h : (wk3 P n s).1 = 0) : s.1 = 0 ∧ deK (hdT s.2) ≠ 4 ∧ n < 30 ∧ (wk0 n s).1 = 0 ∧ wk0 n s = (0, s.2.tail) ∧ (wk1 P n s).1 = 0 ∧ oldK (wkN P (deK (hdT s.2))) none (hdT (wk0 n s).2) = 0 ∧ (wk2 P n s).1 = 0 ∧ (deK (hdT s.2) ≠ 1 → oldK (wkM P (deK (hdT s.2))) (wkB P (deK (hdT s.2)) (hdT (wk0 n s).2)) (hdT (wk1 P n s).2) = 0) := by
  have h2 : (wk2 P n s).1 = 0 := (stp_0 (show (stp (semi (wk2 P n s)) (wk2 P n s)).1 = 0 from h)).2.1
  have h1 : (wk1 P n s).1 = 0 ∧ (deK (hdT s.2) ≠ 1 → oldK (wkM P (deK (hdT s.2))) (wkB P (deK (hdT s.2)) (hdT (wk0 n s).2)) (hdT (wk1 P n s).2) = 0) := by
    have h2' := h2
    unfold wk2 at h2'
    by_cases c : deK (hdT s.2) = 1
    · rw [if_pos c] at h2'
      exact ⟨h2', fun q => absurd c q⟩
    · rw [if_neg c] at h2'
      obtain ⟨a, b, -⟩ := stp_0 (show (stp _ (wk1 P n s)).1 = 0 from h2')
      exact ⟨b, fun _ => a⟩
  obtain ⟨a, b, -⟩ := stp_0 (show (stp _ (wk0 n s)).1 = 0 from h1.1)
  obtain ⟨a0, b0, c0⟩ := stp_0 (show (stp (wkE n (deK (hdT s.2))) s).1 = 0 from b)
  unfold wkE at a0
  have k4 : deK (hdT s.2) ≠ 4 := fun q => by rw [if_pos q] at a0; cases a0
  rw [if_neg k4] at a0
  have n30 : n < 30 := by
    by_cases c : n < 30
    · exact c
    · rw [if_neg c] at a0; cases a0
  exact ⟨b0, k4, n30, b, c0, h1.1, a, h2, h1.2⟩
theorem wk_len {P : Pl} {n : Nat} {s : PS} (h : (wk3 P n s).1 = 0) : (wk3 P n s).2.length < s.2.length := by
  have a := sm1_len (show (sm1 (wk2 P n s)).1 = 0 from h)
  have b : (wk2 P n s).2.length ≤ (wk1 P n s).2.length := by
    unfold wk2
    split
    · exact Nat.le_refl _
    · exact (stp_sm _ _).1
  have c : (wk1 P n s).2.length ≤ (wk0 n s).2.length := (stp_sm _ _).1
  have e : (wk0 n s).2.length ≤ s.2.length := (stp_sm _ _).1
  show (sm1 (wk2 P n s)).2.length < _
  omega
/-- a line that is read is a line that may be done -/
theorem wk_ok {P : Pl} {n : Nat} {s : PS} (hO : PlO P) (h : (wk3 P n s).1 = 0) : lnOK (pN P) (wkQ P n s).1 (wkQ P n s).2.1 (wkQ P n s).2.2 ∧ ((wkQ P n s).1 = 2 → (wkQ P n s).2.1 ≠ (wkQ P n s).2.2) ∧ ((wkQ P n s).1 = 3 → (wkQ P n s).2.2 < pSs P) := by
  obtain ⟨a1, a2, a3, a4, a5, a6, a7, a8, a9⟩ := wk_0 h
  have h3 : (pH P).length ≤ 3 := hO.2.2.2.1
  have s2 : (pS P).length ≤ 2 := hO.2.2.2.2.1
  obtain ⟨-, ⟨x, x1, x2⟩, -⟩ := old_0 a7
  have kl := deK_le (hdT s.2)
  unfold wkQ
  rw [x1]
  generalize deK (hdT s.2) = k at *
  have hN : (wkN P k).length = if k = 0 then pN P else (pH P).length := by
    unfold wkN
    split
    · unfold pIn; rw [List.length_map]
    · rfl
  by_cases c1 : k = 1
  · rw [if_pos c1]
    rw [hN, if_neg (by omega)] at x2
    exact ⟨⟨by show k < 4; omega, fun q => by omega, fun _ => by show x < 3; omega, fun q => by omega, fun q => by omega⟩, fun q => by omega, fun q => by omega⟩
  · rw [if_neg c1]
    obtain ⟨-, ⟨y, y1, y2⟩, yb⟩ := old_0 (a9 c1)
    rw [y1]
    have hM : (wkM P k).length = if k = 3 then pSs P else (pH P).length := by
      unfold wkM
      split
      · unfold pSn; rw [List.length_map]
      · rfl
    rw [hM] at y2
    rw [hN] at x2
    refine ⟨⟨by show k < 4; omega, fun q => ?_, fun q => absurd q c1, fun q => ?_, fun q => ?_⟩, fun q => ?_, fun q => ?_⟩
    · rw [if_pos q] at x2
      rw [if_neg (by omega)] at y2
      exact ⟨x2, by show y < 3; omega⟩
    · rw [if_neg (by omega)] at x2 y2
      exact ⟨by show x < 3; omega, by show y < 3; omega⟩
    · rw [if_neg (by omega)] at x2
      rw [if_pos q] at y2
      have : pSs P ≤ 2 := s2
      exact ⟨by show x < 3; omega, by show y < 2; omega⟩
    · intro z
      have q : k = 2 := q
      have z : x = y := z
      have e : wkN P k = pH P := if_neg (by omega)
      rw [e] at x1
      apply yb
      unfold wkB
      rw [if_pos q, x1, y1, z]
    · have q : k = 3 := q
      rw [if_pos q] at y2
      exact y2
theorem wkL_ok {P : Pl} (hO : PlO P) : ∀ (n : Nat) (s : PS) (W : List Ln), (lnsOK (pN P) W ∧ W.length ≤ 30 ∧ ∀ q ∈ W, q.1 = 3 → q.2.2 < pSs P) → (lnsOK (pN P) (wkL P n s W).2 ∧ (wkL P n s W).2.length ≤ 30 ∧ ∀ q ∈ (wkL P n s W).2, q.1 = 3 → q.2.2 < pSs P)
  | 0, _, _, h => h
  | n + 1, s, W, h => by
    rw [wkL]
    by_cases c : s.1 = 0 ∧ (hdT s.2).2.1 ≠ 0
    · rw [if_pos c]
      refine wkL_ok hO n _ _ ?_
      by_cases c3 : (wk3 P W.length s).1 = 0
      · rw [if_pos c3]
        obtain ⟨o1, o2, o3⟩ := wk_ok hO c3
        have l3 := (wk_0 c3).2.2.1
        refine ⟨fun q hq => ?_, by rw [List.length_append, List.length_singleton]; omega, fun q hq => ?_⟩
        · rcases List.mem_append.mp hq with z | z
          · exact h.1 q z
          · rw [List.mem_singleton.mp z]; exact ⟨o1, o2⟩
        · rcases List.mem_append.mp hq with z | z
          · exact h.2.2 q z
          · rw [List.mem_singleton.mp z]; exact o3
      · rw [if_neg c3]; exact h
    · rw [if_neg c]; exact h
abbrev rdW (s : Sta) : PS × List Ln := wkL (sP s) 1001 (0, TT (sT s) 0) []
abbrev stW (s : Sta) (W : List Ln) : Sta := ([], sP s, W, s.2.2.2)
def nWorkR (s : Sta) (R : PS × List Ln) : Int32 × Sta := if R.1.1 = 0 then (0, stW s R.2) else (nI (flv R.1), stTx s [])
def nWork (s : Sta) : Int32 × Sta := nWorkR s (rdW s)
theorem okSta_work {s : Sta} {w : Nat} (ok : okSta s w) : okSta (nWork s).2 w := by
  have h := wkL_ok ok.pl 1001 (0, TT (sT s) 0) [] ⟨fun q hq => (by cases hq), Nat.zero_le _, fun q hq => (by cases hq)⟩
  unfold nWork nWorkR
  by_cases c : (rdW s).1.1 = 0
  · rw [if_pos c]
    exact ⟨TxO_nil, ok.2.1, ok.2.2.1, h, ok.2.2.2.2⟩
  · rw [if_neg c]; exact okSta_T ok TxO_nil
def wkS (a : Nat) : Prop := a = 1 ∨ a = 55 ∨ (48 ≤ a ∧ a ≤ 54)
theorem FrD.wk {h h' : pm_H} (f : FrD h h') : FrS wkS h h' := f.1.mono (fun a q => by unfold rdS at q; unfold wkS; omega)
def dI (k : Nat) : Int32 := if k = 4 then -1 else nI k
theorem dI_is {k j : Nat} (hk : k ≤ 4) (hj : j < 4) : dI k = nI j ↔ k = j := by
  unfold dI
  by_cases c : k = 4
  · rw [if_pos c]
    exact ⟨fun q => absurd q.symm (nI_nm1 (by omega)), fun q => by omega⟩
  · rw [if_neg c]; exact nI_inj (by omega) (by omega)
theorem dI_m1 {k : Nat} (hk : k ≤ 4) : dI k = -1 ↔ k = 4 := by
  unfold dI
  by_cases c : k = 4
  · rw [if_pos c]; exact ⟨fun _ => c, fun _ => rfl⟩
  · rw [if_neg c]; exact ⟨fun q => absurd q (nI_nm1 (by omega)), fun q => absurd q c⟩
section CWK
variable {G : pm_G} {d : Nat} {h : pm_H} {tx : List Nat} {s : PS}
theorem s_oldFlt {o m : Nat} {ns : List (List Nat)} {b : Int32} {Q : Int32 → pm_H → Prop} (hL : La h) (hC : CS h tx s) (hs : s.1 ≠ 0) (h1 : h.1[o]? = some (0, 3)) (h2 : gp h o 0 = o + 1) (h3 : h.1[o + 1]? = some (2, m)) (hN : NmC h o ns) (hm : ns.length ≤ m) (hm2 : m < 1000) (w : ∀ h' r, FrD h h' → CS h' tx s → Q r h') : ci G (d + 5) m_X5_oldName [.ref 55, .ref o, .int b] h Q := by
  obtain ⟨r1, r2, r3⟩ := hL.rdr
  have e : ∀ k, stp k s = s := fun k => (stp_sm k s).2 hs
  refine ci_wp rfl (Nat.le_of_ble_eq_true rfl) rfl (x_X5_oldName ⟨r1, ?_⟩)
  rw [r2]
  refine ⟨hL.tap.1, h1, s_find (d := d + 3) h1 h2 h3 hN.1 hm hm2 ⟨r1, s_isName (d := d + 3) hL hC ?_⟩⟩
  split
  · exact ⟨r1, s_fp (d := d) (k := 1) hL hC (by decide) (fun q => by cases q) (fun h' a b => ⟨_, rfl, w h' _ a (by rw [← e 1]; exact b)⟩)⟩
  split
  · exact ⟨r1, s_fp (d := d) (k := 2) hL hC (by decide) (fun q => by cases q) (fun h' a b => ⟨_, rfl, w h' _ a (by rw [← e 2]; exact b)⟩)⟩
  split
  · exact ⟨r1, s_fp (d := d) (k := 3) hL hC (by decide) (fun q => by cases q) (fun h' a b => ⟨_, rfl, w h' _ a (by rw [← e 3]; exact b)⟩)⟩
  · exact ⟨r1, s_fp (d := d) (k := 0) hL hC (by decide) (fun _ q => absurd q hs) (fun h' a b => ⟨_, rfl, w h' _ a (by rw [← e 0]; exact b)⟩)⟩
end CWK
