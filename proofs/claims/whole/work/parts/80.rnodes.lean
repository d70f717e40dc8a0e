/-! THE REFERENCE: who is RAISED, on the FLOOR, how many NODES, how deep -/
theorem nodup_map_inj {α : Type} {f : α → Nat} : ∀ {l : List α} {x y : α}, (l.map f).Nodup → x ∈ l → y ∈ l → f x = f y → x = y
  | [], _, _, _, h, _, _ => by cases h
  | a :: r, x, y, hn, h1, h2, e => by
    obtain ⟨n1, n2⟩ := List.nodup_cons.mp (show (f a :: r.map f).Nodup from hn)
    rcases List.mem_cons.mp h1 with q | q
    · rcases List.mem_cons.mp h2 with q2 | q2
      · rw [q, q2]
      · exact absurd (List.mem_map.mpr ⟨y, q2, by rw [← e, q]⟩) n1
    · rcases List.mem_cons.mp h2 with q2 | q2
      · exact absurd (List.mem_map.mpr ⟨x, q, by rw [e, q2]⟩) n1
      · exact nodup_map_inj n2 q q2 e
section RND
variable {G : pm_G} {d : Nat} {h : pm_H} {S F P : Nat → Int32}
theorem ixg' (c t : Nat) : nI c + nI t = nI (c + t) := nI_add c t
theorem r_listLoop {b t n : Nat} {post : pm_PT} (hM : Md h) (hb : b + 320 ≤ 4485) (ht : t < 2 ^ 31) : ∀ (l : List Nat), LC (fun u => S (b + 300 + u)) l → (∀ u ∈ l, u < 20) → post (some (.int (b2i (decide (t ∈ l))))) (s8 h S) → Wp G (m_X12_isListed, d + 2, 0, 0, post) (0, 0) 9 [.ref 446, .int (nI b), .null, .int (nI t), .int (hdI l)] [] (s8 h S)
  | [], _, _, k => by
    refine x_X12_isListed_9 ?_
    rw [if_pos (show hdI [] < 0 by decide)]
    exact k
  | u :: r, hl, hu, k => by
    refine x_X12_isListed_9 ?_
    have hu20 := hu u List.mem_cons_self
    rw [show hdI (u :: r) = nI u from rfl, if_neg (nI_pos (by omega))]
    by_cases c : u = t
    · rw [if_pos (by rw [c])]
      rw [decide_eq_true (show t ∈ u :: r from c ▸ List.mem_cons_self)] at k
      exact k
    · rw [if_neg (fun q => c (by
        have := congrArg Int32.toInt q
        rw [nI_toInt (by omega), nI_toInt ht] at this
        omega))]
      have g17 : gp (s8 h S) 446 17 = 458 := hM.2.1
      rw [g17, show (300 : Int32) = nI 300 from rfl, ixg, cl_nI (show b + 300 + u < 2 ^ 31 by omega), s8_gi, show S (b + 300 + u) = hdI r from hl.1]
      refine ⟨hM.1, 4485, hM.2.2, vp_nI (by omega) (by decide), ?_⟩
      have e : (t ∈ u :: r) = (t ∈ r) := by
        rw [List.mem_cons]
        exact propext ⟨fun q => q.resolve_left (fun z => c z.symm), Or.inr⟩
      simp only [e] at k
      exact r_listLoop (n := n) hM hb ht r hl.2 (fun x hx => hu x (List.mem_cons_of_mem _ hx)) k
theorem r_isListed {ky : Nat → Int32} {b t : Nat} {k : Nd} {x y : Int32} {Q : Int32 → pm_H → Prop} (hM : Md h) (hb : b + 320 ≤ 4485) (ht : t < 2 ^ 31) (hk : RN ky S b k x y) (w : Q (b2i (decide (t ∈ n_ls k))) (s8 h S)) : ci G (d + 2) m_X12_isListed [.ref 446, .int (nI b), .int (nI k.1), .int (nI t)] (s8 h S) Q := by
  have n0 := hk.1
  refine ci_wp rfl (Nat.le_of_ble_eq_true rfl) rfl (x_X12_isListed ⟨hM.1, r_nodeOf (w := 4) hM (by omega) ?_⟩)
  rw [hk.2.2.2.2.2.1]
  exact r_listLoop (n := 0) hM hb ht _ hk.2.2.2.2.2.2.2.2.2.1 hk.2.2.2.2.2.2.2.2.2.2 ⟨_, rfl, w⟩
/-- the NODE in whose LIST an ITEM is -/
theorem r_nodeWith {ky : Nat → Int32} {b t w : Nat} {hs : Hs} {Q : Int32 → pm_H → Prop} (hM : Md h) (hb : b + 320 ≤ 4485) (hw : wf hs .leaf w) (hw2 : w ≤ 1000) (hC : RR ky S b hs .leaf) (ht : t < 20) (k0 : t ∉ aits hs → Q (-1) (s8 h S)) (k1 : ∀ k x y, k ∈ ands hs → t ∈ n_ls k → RN ky S b k x y → Q (nI k.1) (s8 h S)) : ci G (d + 3) m_X12_nodeWith [.ref 446, .int (nI b), .int (nI t)] (s8 h S) Q := by
  have hnd : (aits hs).Nodup := (List.nodup_append.mp hw.2.1).1
  have rn : ∀ k ∈ ands hs, ∃ x y, RN ky S b k x y := by
    intro k hk
    obtain ⟨q, hq, h1⟩ := ands_mem.mp hk
    by_cases c : 16 ≤ q % 24
    · have := hw.high hw2 hq c
      rw [isL_leaf this] at h1; cases h1
    · have := (hC.1 (q / 24) (q % 24) (by omega) (by omega)).1
      rw [show 24 * (q / 24) + q % 24 = q by omega] at this
      exact this.nd h1
  have hid : (aids hs).Nodup := (List.nodup_append.mp hw.1).1
  have one : ∀ k k' : Nd, k ∈ ands hs → k' ∈ ands hs → k.1 = k'.1 → t ∈ n_ls k → t ∈ n_ls k' → k = k' := fun k k' h1 h2 _ h3 h4 => ands_one hnd h1 h2 h3 h4
  have fin : ∀ r : Int32, ((r = -1 ∧ t ∉ aits hs) ∨ ∃ k ∈ ands hs, t ∈ n_ls k ∧ r = nI k.1) → Q r (s8 h S) := by
    rintro r (⟨e, h1⟩ | ⟨k, h1, h2, e⟩)
    · rw [e]; exact k0 h1
    · obtain ⟨x, y, h3⟩ := rn k h1
      rw [e]; exact k1 k x y h1 h2 h3
  refine ci_wp rfl (Nat.le_of_ble_eq_true rfl) rfl (x_X12_nodeWith ?_)
  refine up_to (P := fun n => ∀ r : Int32, ((r = -1 ∧ ∀ k ∈ ands hs, t ∈ n_ls k → n ≤ k.1) ∨ ∃ k ∈ ands hs, t ∈ n_ls k ∧ r = nI k.1 ∧ k.1 < n) → Wp G (m_X12_nodeWith, d + 2 + 1, 0, 0, fun v h1 => ∃ r, v = some (.int r) ∧ Q r h1) (0, 0) 5 [.ref 446, .int (nI b), .int (nI t), .int r, .int (nI n)] [] (s8 h S)) 24 (fun n hn ih => ?_) ?_ (-1) (Or.inl ⟨rfl, fun k _ _ => Nat.zero_le _⟩)
  · intro r hr
    refine x_X12_nodeWith_5 ?_
    rw [if_neg (li_no 24 24 rfl hn (by decide))]
    refine ⟨hM.1, r_nodeOf (d := d + 1) (w := 0) hM (by omega) ?_⟩
    rw [nI_1]
    have next : (∀ k ∈ ands hs, t ∈ n_ls k → k.1 ≠ n) → Wp G (m_X12_nodeWith, d + 2 + 1, 0, 0, fun v h1 => ∃ r, v = some (.int r) ∧ Q r h1) (0, 0) 5 [.ref 446, .int (nI b), .int (nI t), .int r, .int (nI (n + 1))] [] (s8 h S) := by
      intro hne
      refine ih r (hr.imp (fun q => ⟨q.1, fun k h1 h2 => ?_⟩) (fun ⟨k, h1, h2, h3, h4⟩ => ⟨k, h1, h2, h3, by omega⟩))
      have := q.2 k h1 h2
      have := hne k h1 h2
      omega
    by_cases c : n ∈ aids hs
    · obtain ⟨k, h1, e⟩ := aids_nds.mp c
      obtain ⟨x, y, N⟩ := rn k h1
      have e0 : S (b + 8 * n + 0) = nI (n_rk k) := by rw [← e]; exact N.2.1
      have lv := hC.live hw hw2 n (List.mem_append_left _ c)
      rw [if_neg (show ¬ S (b + 8 * n + 0) < 0 by rw [i_lt0]; rw [i_le] at lv; exact Int.not_lt.mpr lv)]
      subst e
      refine ⟨hM.1, r_isListed (d := d) hM hb (by omega) N ?_⟩
      by_cases z : t ∈ n_ls k
      · rw [decide_eq_true z, b2i_t, if_neg (by decide)]
        exact ih _ (Or.inr ⟨k, h1, z, rfl, Nat.lt_succ_self _⟩)
      · rw [decide_eq_false z, b2i_f, if_pos rfl]
        refine next fun k' h3 h4 e2 => ?_
        have : k' = k := by
          obtain ⟨q, hq, a⟩ := ands_mem.mp h1
          obtain ⟨q', hq', a'⟩ := ands_mem.mp h3
          have i1 : k.1 ∈ tr_ids (hs q) := by rw [tr_ids_nds]; exact List.mem_map.mpr ⟨k, a, rfl⟩
          have i2 : k.1 ∈ tr_ids (hs q') := by rw [tr_ids_nds, ← e2]; exact List.mem_map.mpr ⟨k', a', rfl⟩
          have eq := aids_one hid hq hq' i1 i2
          subst eq
          have nd := aids_nd hid hq
          rw [tr_ids_nds] at nd
          exact nodup_map_inj nd a' a e2
        exact z (this ▸ h4)
    · have e0 : S (b + 8 * n + 0) = -1 := hC.2.2 n hn (by simpa [tr_ids] using c)
      rw [e0, if_pos (show (-1 : Int32) < 0 by decide)]
      exact next fun k h1 h2 e => c (aids_nds.mpr ⟨k, h1, e⟩)
  · intro r hr
    refine x_X12_nodeWith_5 ?_
    rw [if_pos (li_yes 24 24 rfl)]
    refine ⟨_, rfl, fin r (hr.imp (fun q => ⟨q.1, fun z => ?_⟩) (fun ⟨k, h1, h2, h3, _⟩ => ⟨k, h1, h2, h3⟩))⟩
    obtain ⟨k, h1, h2⟩ := aits_nds.mp z
    have := q.2 k h1 h2
    have := hw.2.2.2.1 k.1 (List.mem_append_left _ (aids_nds.mpr ⟨k, h1, rfl⟩))
    omega
theorem r_isRaised {b t w : Nat} {hs : Hs} {Q : Int32 → pm_H → Prop} (hM : Mk h) (hb : b + 320 ≤ 4485) (hw : wf hs .leaf w) (hw2 : w ≤ 1000) (hC : RR (gi h 460) S b hs .leaf) (ht : t < 20) (k : Q (b2i (rsd (rLt (gi h 460)) hs t)) (s8 (fp h F P) S)) : ci G (d + 4) m_X12_isRaised [.ref 446, .int (nI b), .int (nI t)] (s8 (fp h F P) S) Q := by
  have hnd : (aits hs).Nodup := (List.nodup_append.mp hw.2.1).1
  refine ci_wp rfl (Nat.le_of_ble_eq_true rfl) rfl (x_X12_isRaised ⟨hM.1.1, r_nodeWith (h := fp h F P) (d := d) hM.1 hb hw hw2 hC ht (fun z => ?_) (fun x u v h1 h2 N => ?_)⟩)
  · rw [if_pos (show (-1 : Int32) < 0 by decide)]
    rw [rsd_out z] at k
    exact ⟨_, rfl, k⟩
  · have n0 := N.1
    rw [if_neg (nI_pos (by omega))]
    have g21 : gp (s8 (fp h F P) S) 446 21 = 460 := hM.2.1
    rw [g21, sfgi h S F P (by decide) (by decide) (by decide), cl_nI (show t < 2 ^ 31 by omega)]
    refine ⟨hM.1.1, 20, hM.2.2.1, vp_nI ht (by decide), r_nodeOf (h := fp h F P) (d := d + 2) (w := 2) hM.1 (by omega) ?_⟩
    obtain ⟨q, hq, h3⟩ := ands_mem.mp h1
    have W := (hw.2.2.2.2.1 q hq).1.nd h3
    rw [N.2.2.2.1 W.1]
    rw [rsd_in hnd h1 h2] at k
    unfold rLt at k
    by_cases z : gi h 460 t < gi h 460 (n_ld x)
    · rw [if_neg (by rw [Int32.not_le]; exact z)]
      rw [decide_eq_true z] at k
      exact ⟨_, rfl, k⟩
    · rw [if_pos (by rw [← Int32.not_lt]; exact z)]
      rw [decide_eq_false z] at k
      exact ⟨_, rfl, k⟩
/-- of a HEAP, or of all -/
def inH (hp : Nat → Int32) (x : Int32) (t : Nat) : Bool := decide (x < 0) || decide (hp t = x)
theorem r_raisedIn {b w N : Nat} {A : AF} {x : Int32} {Q : Int32 → pm_H → Prop} (hM : Mk h) (hN : gi h 452 2 = nI N) (hN2 : N ≤ 20) (hb : b + 320 ≤ 4485) (hw : okA A w) (hw2 : w ≤ 1000) (hC : RA (gi h 460) S b A) (hn : ∀ t, N ≤ t → t < 20 → A.2.1 t = -1) (k : Q (nI (cnt (fun t => inH A.2.1 x t && rsd (rLt (gi h 460)) A.1 t) 20)) (s8 (fp h F P) S)) : ci G (d + 5) m_X12_raisedIn [.ref 446, .int (nI b), .int x] (s8 (fp h F P) S) Q := by
  have e : cnt (fun t => inH A.2.1 x t && rsd (rLt (gi h 460)) A.1 t) 20 = cnt (fun t => inH A.2.1 x t && rsd (rLt (gi h 460)) A.1 t) N := by
    rw [show 20 = N + (20 - N) by omega]
    refine cnt_N _ fun u h1 h2 => ?_
    rw [rsd_out (hw.free (by omega) (hn u h1 (by omega))), Bool.and_false]
  rw [e] at k
  refine ci_wp rfl (Nat.le_of_ble_eq_true rfl) rfl (x_X12_raisedIn ?_)
  refine up_to (P := fun n => Wp G (m_X12_raisedIn, d + 4 + 1, 0, 0, fun v h1 => ∃ r, v = some (.int r) ∧ Q r h1) (0, 0) 5 [.ref 446, .int (nI b), .int x, .int (nI (cnt (fun t => inH A.2.1 x t && rsd (rLt (gi h 460)) A.1 t) n)), .int (nI n)] [] (s8 (fp h F P) S)) N (fun n hn ih => ?_) ?_
  · refine x_X12_raisedIn_5 ⟨hM.1.1, r_items hM hN ?_⟩
    rw [if_neg (show ¬ nI N ≤ nI n from nI_nlen hn (by omega)), nI_1, nI_1]
    have key := cnt_b (p := fun t => inH A.2.1 x t && rsd (rLt (gi h 460)) A.1 t) (n := n)
    have rz : ∀ (h2 : inH A.2.1 x n = true), ci G (d + 4) m_X12_isRaised [.ref 446, .int (nI b), .int (nI n)] (s8 (fp h F P) S) fun r3 h4 => if r3 = 0 then Wp G (m_X12_raisedIn, d + 4 + 1, 0, 0, fun v h1 => ∃ r, v = some (.int r) ∧ Q r h1) (0, 0) 5 [.ref 446, .int (nI b), .int x, .int (nI (cnt (fun t => inH A.2.1 x t && rsd (rLt (gi h 460)) A.1 t) n) + 0), .int (nI (n + 1))] [] h4 else Wp G (m_X12_raisedIn, d + 4 + 1, 0, 0, fun v h1 => ∃ r, v = some (.int r) ∧ Q r h1) (0, 0) 5 [.ref 446, .int (nI b), .int x, .int (nI (cnt (fun t => inH A.2.1 x t && rsd (rLt (gi h 460)) A.1 t) n + 1)), .int (nI (n + 1))] [] h4 := by
      intro h2
      refine r_isRaised hM hb hw.1 hw2 hC.1 (by omega) ?_
      simp only [h2, Bool.true_and] at key
      by_cases z : rsd (rLt (gi h 460)) A.1 n = true
      · rw [z, b2i_t, if_neg (by decide)]
        rw [z, b2i_t, nI_1] at key
        rw [key]; exact ih
      · have z : rsd (rLt (gi h 460)) A.1 n = false := by simpa using z
        rw [z, b2i_f, if_pos rfl]
        rw [z, b2i_f] at key
        rw [key]; exact ih
    by_cases c : x < 0
    · rw [if_pos c]
      exact ⟨hM.1.1, rz (by unfold inH; rw [decide_eq_true c]; rfl)⟩
    · rw [if_neg c]
      have g17 : gp (s8 (fp h F P) S) 446 17 = 458 := hM.1.2.1
      rw [g17, show (240 : Int32) = nI 240 from rfl, ixg, cl_nI (show b + 240 + n < 2 ^ 31 by omega), s8_gi, (hC.2 n (by omega)).1]
      refine ⟨hM.1.1, 4485, hM.1.2.2, vp_nI (by omega) (by decide), ?_⟩
      by_cases c2 : A.2.1 n = x
      · rw [if_pos c2]
        exact rz (by unfold inH; rw [decide_eq_true c2, Bool.or_true])
      · rw [if_neg c2]
        have h2 : inH A.2.1 x n = false := by unfold inH; rw [decide_eq_false c, decide_eq_false c2]; rfl
        simp only [h2, Bool.false_and, b2i_f] at key
        rw [key]; exact ih
  · refine x_X12_raisedIn_5 ⟨hM.1.1, r_items hM hN ?_⟩
    rw [if_pos (show nI N ≤ nI N from Int32.le_refl _)]
    exact ⟨_, rfl, k⟩
theorem neg_m1 {x : Int32} (h : x = -1 ∨ ∃ a : Nat, a < 3 ∧ x = nI a) : (0 ≤ x ↔ ¬ x = -1) ∧ (x < 0 ↔ x = -1) := by
  rcases h with q | ⟨a, ha, q⟩
  · rw [q]; decide
  · rw [q]
    exact ⟨⟨fun _ => nI_nm1 (by omega), fun _ => nI_0le (by omega)⟩, ⟨fun z => absurd z (nI_pos (by omega)), fun z => absurd z (nI_nm1 (by omega))⟩⟩
theorem r_onFloor {b N : Nat} {hp sv : Nat → Int32} {Q : Int32 → pm_H → Prop} (hM : Mk h) (hN : gi h 452 2 = nI N) (hN2 : N ≤ 20) (hb : b + 320 ≤ 4485) (hv : ∀ t, t < 20 → S (b + 240 + t) = hp t ∧ S (b + 260 + t) = sv t) (hp1 : ∀ t, t < 20 → hp t = -1 ∨ ∃ a : Nat, a < 3 ∧ hp t = nI a) (sv1 : ∀ t, t < 20 → sv t = -1 ∨ ∃ a : Nat, a < 3 ∧ sv t = nI a) (k : Q (nI (cnt (fun t => decide (hp t = -1) && decide (sv t = -1)) N)) (s8 (fp h F P) S)) : ci G (d + 2) m_X12_onFloor [.ref 446, .int (nI b)] (s8 (fp h F P) S) Q := by
  refine ci_wp rfl (Nat.le_of_ble_eq_true rfl) rfl (x_X12_onFloor ?_)
  refine up_to (P := fun n => Wp G (m_X12_onFloor, d + 1 + 1, 0, 0, fun v h1 => ∃ r, v = some (.int r) ∧ Q r h1) (0, 0) 4 [.ref 446, .int (nI b), .int (nI (cnt (fun t => decide (hp t = -1) && decide (sv t = -1)) n)), .int (nI n)] [] (s8 (fp h F P) S)) N (fun n hn ih => ?_) ?_
  · refine x_X12_onFloor_4 ⟨hM.1.1, r_items hM hN ?_⟩
    rw [if_neg (show ¬ nI N ≤ nI n from nI_nlen hn (by omega)), nI_1, nI_1]
    have key := cnt_b (p := fun t => decide (hp t = -1) && decide (sv t = -1)) (n := n)
    have hn20 : n < 20 := by omega
    have g17 : gp (s8 (fp h F P) S) 446 17 = 458 := hM.1.2.1
    rw [g17, show (240 : Int32) = nI 240 from rfl, show (260 : Int32) = nI 260 from rfl, ixg, ixg, cl_nI (show b + 240 + n < 2 ^ 31 by omega), cl_nI (show b + 260 + n < 2 ^ 31 by omega), s8_gi, (hv n hn20).1, (hv n hn20).2]
    refine ⟨hM.1.1, 4485, hM.1.2.2, vp_nI (by omega) (by decide), ?_⟩
    by_cases c : hp n = -1
    · rw [if_neg (fun z => (neg_m1 (hp1 n hn20)).1.mp z c)]
      refine ⟨vp_nI (by omega) (by decide), ?_⟩
      simp only [decide_eq_true c, Bool.true_and] at key
      by_cases c2 : sv n = -1
      · rw [if_neg (fun z => (neg_m1 (sv1 n hn20)).1.mp z c2)]
        rw [decide_eq_true c2, b2i_t, nI_1] at key
        rw [key]; exact ih
      · rw [if_pos ((neg_m1 (sv1 n hn20)).1.mpr c2)]
        rw [decide_eq_false c2, b2i_f] at key
        rw [key]; exact ih
    · rw [if_pos ((neg_m1 (hp1 n hn20)).1.mpr c)]
      simp only [decide_eq_false c, Bool.false_and, b2i_f] at key
      rw [key]; exact ih
  · refine x_X12_onFloor_4 ⟨hM.1.1, r_items hM hN ?_⟩
    rw [if_pos (show nI N ≤ nI N from Int32.le_refl _)]
    exact ⟨_, rfl, k⟩
theorem tr_ids_len (z : Nat) (n : Nd) (u : Unit) (l r : Tr) : (tr_ids (.inner z n u l r)).length = 1 + (tr_ids l).length + (tr_ids r).length := by
  simp [tr_ids]; omega
theorem r_nodesUnder {ky : Nat → Int32} {b : Nat} (hM : Md h) (hb : b + 320 ≤ 4485) : ∀ (T : Tr) (D : Nat) (Q : Int32 → pm_H → Prop), NR ky S b T → TR T → (isL T = true ∨ tr_rk T ≤ D) → Q (nI (tr_ids T).length) (s8 h S) → ci G (D + 2) m_X12_nodesUnder [.ref 446, .int (nI b), .int (tr_no T)] (s8 h S) Q
  | .leaf, D, Q, _, _, _, k => by
    refine ci_wp rfl (Nat.le_of_ble_eq_true rfl) rfl (x_X12_nodesUnder ?_)
    rw [if_neg (show ¬ (0 : Int32) ≤ tr_no .leaf by decide)]
    exact ⟨_, rfl, k⟩
  | .inner z n u l r, D, Q, ⟨hn, hl, hr⟩, ⟨t1, t2, t3, t4⟩, hD, k => by
    have hD : n_rk n ≤ D := hD.resolve_left (fun q => by cases q)
    have n0 := hn.1
    refine ci_wp rfl (Nat.le_of_ble_eq_true rfl) rfl (x_X12_nodesUnder ?_)
    rw [show tr_no (.inner z n u l r) = nI n.1 from rfl, if_pos (nI_0le (by omega))]
    have side : ∀ (c : Tr) (Q' : Int32 → pm_H → Prop), (∀ (D : Nat) (Q : Int32 → pm_H → Prop), (isL c = true ∨ tr_rk c ≤ D) → Q (nI (tr_ids c).length) (s8 h S) → ci G (D + 2) m_X12_nodesUnder [.ref 446, .int (nI b), .int (tr_no c)] (s8 h S) Q) → (isL c = true ∨ tr_rk c < n_rk n) → Q' (nI (tr_ids c).length) (s8 h S) → ci G (D + 1) m_X12_nodesUnder [.ref 446, .int (nI b), .int (tr_no c)] (s8 h S) Q' := by
      intro c Q' ih hc hQ
      cases D with
      | zero =>
        have hc : isL c = true := hc.resolve_right (by omega)
        rw [isL_leaf hc] at hQ ⊢
        refine ci_wp rfl (Nat.le_of_ble_eq_true rfl) rfl (x_X12_nodesUnder ?_)
        rw [if_neg (show ¬ (0 : Int32) ≤ tr_no .leaf by decide)]
        exact ⟨_, rfl, hQ⟩
      | succ D' => exact ih D' Q' (hc.imp id (by omega)) hQ
    refine ⟨hM.1, r_nodeOf (w := 6) hM (by omega) ?_⟩
    rw [hn.2.2.2.2.2.2.2.1]
    refine ⟨hM.1, side l _ (fun D Q a b' => r_nodesUnder hM hb l D Q hl t3 a b') t1 ⟨hM.1, r_nodeOf (w := 7) hM (by omega) ?_⟩⟩
    rw [hn.2.2.2.2.2.2.2.2.1]
    refine ⟨hM.1, side r _ (fun D Q a b' => r_nodesUnder hM hb r D Q hr t4 a b') t2 ⟨_, rfl, ?_⟩⟩
    rw [show (1 : Int32) = nI 1 from rfl, nI_add, nI_add]
    rw [tr_ids_len] at k
    exact k
theorem oI_neg {o : Option Nat} (h : ∀ x, o = some x → x < 2 ^ 31) : oI o < 0 ↔ o = none := by
  cases o with
  | none => exact ⟨fun _ => rfl, fun _ => by decide⟩
  | some x => exact ⟨fun z => absurd z (nI_pos (h x rfl)), fun z => by cases z⟩
theorem r_depthFrom {ky : Nat → Int32} {j : Nat} (hM : Md h) (hj : j < 24) : ∀ (T : Tr) (D : Nat) (Q : Int32 → pm_H → Prop), NR ky S 0 T → TR T → (isL T = true ∨ tr_rk T ≤ D) → (isL T = true ∨ tr_rk T ≤ 100) → Q (oI (tr_dp T j)) (s8 h S) → ci G (D + 2) m_X12_depthFrom [.ref 446, .int (tr_no T), .int (nI j)] (s8 h S) Q
  | .leaf, D, Q, _, _, _, _, k => by
    refine ci_wp rfl (Nat.le_of_ble_eq_true rfl) rfl (x_X12_depthFrom ?_)
    rw [if_pos (show tr_no .leaf < 0 by decide), if_neg (show ¬ (0 : Int32) ≤ tr_no .leaf by decide)]
    exact ⟨_, rfl, k⟩
  | .inner z n u l r, D, Q, ⟨hn, hl, hr⟩, ⟨t1, t2, t3, t4⟩, hD, h100, k => by
    have hD : n_rk n ≤ D := hD.resolve_left (fun q => by cases q)
    have h100 : n_rk n ≤ 100 := h100.resolve_left (fun q => by cases q)
    have n0 := hn.1
    refine ci_wp rfl (Nat.le_of_ble_eq_true rfl) rfl (x_X12_depthFrom ?_)
    rw [show tr_no (.inner z n u l r) = nI n.1 from rfl, if_neg (nI_pos (by omega))]
    rw [tr_dp] at k
    by_cases c : n.1 = j
    · rw [if_pos (by rw [c]), if_pos (nI_0le (by omega))]
      rw [if_pos c] at k
      exact ⟨_, rfl, k⟩
    · rw [if_neg (fun q => c (by
        have := congrArg Int32.toInt q
        rw [nI_toInt (by omega), nI_toInt (by omega)] at this
        omega))]
      rw [if_neg c] at k
      have small : ∀ c : Tr, TR c → (isL c = true ∨ tr_rk c < n_rk n) → ∀ x, tr_dp c j = some x → x < 2 ^ 31 := by
        intro c tc hc x e
        have := tr_dp_le tc e
        rcases hc with y | y
        · rw [isL_leaf y] at e; cases e
        · omega
      have side : ∀ (c : Tr) (Q' : Int32 → pm_H → Prop), (∀ (D : Nat) (Q : Int32 → pm_H → Prop), (isL c = true ∨ tr_rk c ≤ D) → (isL c = true ∨ tr_rk c ≤ 100) → Q (oI (tr_dp c j)) (s8 h S) → ci G (D + 2) m_X12_depthFrom [.ref 446, .int (tr_no c), .int (nI j)] (s8 h S) Q) → (isL c = true ∨ tr_rk c < n_rk n) → Q' (oI (tr_dp c j)) (s8 h S) → ci G (D + 1) m_X12_depthFrom [.ref 446, .int (tr_no c), .int (nI j)] (s8 h S) Q' := by
        intro c Q' ih hc hQ
        cases D with
        | zero =>
          have hc : isL c = true := hc.resolve_right (by omega)
          rw [isL_leaf hc] at hQ ⊢
          refine ci_wp rfl (Nat.le_of_ble_eq_true rfl) rfl (x_X12_depthFrom ?_)
          rw [if_pos (show tr_no .leaf < 0 by decide), if_neg (show ¬ (0 : Int32) ≤ tr_no .leaf by decide)]
          exact ⟨_, rfl, hQ⟩
        | succ D' => exact ih D' Q' (hc.imp id (by omega)) (hc.imp id (by omega)) hQ
      refine ⟨hM.1, r_nodeOf (b := 0) (w := 6) hM (by omega) ?_⟩
      rw [hn.2.2.2.2.2.2.2.1]
      refine ⟨hM.1, side l _ (fun D Q a a' b' => r_depthFrom hM hj l D Q hl t3 a a' b') t1 ⟨hM.1, r_nodeOf (b := 0) (w := 7) hM (by omega) ?_⟩⟩
      rw [hn.2.2.2.2.2.2.2.2.1]
      refine ⟨hM.1, side r _ (fun D Q a a' b' => r_depthFrom hM hj r D Q hr t4 a a' b') t2 ?_⟩
      cases e : tr_dp l j with
      | some x =>
        rw [if_neg (fun q => by have := (oI_neg (by rw [← e]; exact small l t3 t1)).mp q; cases this)]
        simp only [e] at k
        rw [show oI (some x) + 1 = oI (some (x + 1)) from nI_1 x]
        exact ⟨_, rfl, k⟩
      | none =>
        rw [if_pos (show oI none < 0 by decide)]
        simp only [e] at k
        cases e2 : tr_dp r j with
        | some x =>
          rw [if_neg (fun q => by have := (oI_neg (by rw [← e2]; exact small r t4 t2)).mp q; cases this)]
          simp only [e2] at k
          rw [show oI (some x) + 1 = oI (some (x + 1)) from nI_1 x]
          exact ⟨_, rfl, k⟩
        | none =>
          rw [if_pos (show oI none < 0 by decide)]
          simp only [e2] at k
          exact ⟨_, rfl, k⟩
end RND
