/-! THE LAW: its loop -/
section LAF
variable {G : pm_G} {d : Nat} {post : pm_PT}
theorem hd_lt {N i : Nat} (hN : N ≤ 3584) (hi : 7 * i ≤ 7000) : Int32.ofNat N - 7 < nI (7 * i) ↔ N < 7 * i + 7 := by
  rw [i_lt, nI_toInt (show 7 * i < 2 ^ 31 by omega)]
  have e : (Int32.ofNat N - 7).toInt = (N : Int) - 7 := by
    have h1 : (Int32.ofNat N).toInt = (N : Int) := nI_toInt (show N < 2 ^ 31 by omega)
    rw [Int32.toInt_sub, h1, show ((7 : Int32)).toInt = 7 from rfl, Int.bmod_eq_of_le (by omega) (by omega)]
  rw [e]
  omega
theorem law_loop (hN : gN G ≤ 3584) (fin : ∀ h, post (some (.int 1)) h) : ∀ (m i k1 k2 : Nat) (h : pm_H) (s : Sta), gN G < 7 * i + 7 * m → 7 * i ≤ gN G → LI h s (20 + i) → k1 ≤ 464 + i → k2 ≤ 20090 + 6 * i → Wp G (mL, d + 60 + 1, 601024, 7293034, post) (k1, k2) 23 [.ref 1200, .ref 0, .ref 446, .ref 463, .int (nI (7 * i)), .null, .null] [] h
  | 0, i, k1, k2, h, s, hm, hi, I, h1, h2 => absurd hm (by omega)
  | m + 1, i, k1, k2, h, s, hm, hi, I, h1, h2 => by
    have hk1 : k1 ≤ 601024 := by omega
    have hk2 : k2 ≤ 7293034 := by omega
    refine x_L_law_23 (d := d + 60) hk1 hk2 ?_
    by_cases c : gN G < 7 * i + 7
    · rw [if_pos ((hd_lt hN (by omega)).mpr c)]
      exact ⟨hk1, hk2, fin h⟩
    rw [if_neg (fun q => c ((hd_lt hN (by omega)).mp q))]
    refine ⟨vp_nI (by omega) (by omega), ?_⟩
    have W : 20 ≤ 20 + i ∧ 20 + i + 100 ≤ 1000 := by omega
    have V : ∀ j, 1 ≤ j → j ≤ 6 → vp_in (nI (7 * i) + nI j) (gN G) := fun j j1 j2 => by
      rw [nI_add]; exact vp_nI (by omega) (by omega)
    have nx : ∀ (k1' k2' : Nat) (h' : pm_H) (s' : Sta), k1' ≤ 464 + (i + 1) → k2' ≤ 20090 + 6 * (i + 1) → LI h' s' (20 + i + 1) → Wp G (mL, d + 60 + 1, 601024, 7293034, post) (k1', k2') 23 [.ref 1200, .ref 0, .ref 446, .ref 463, .int (nI (7 * i) + 7), .null, .null] [] h' := fun k1' k2' h' s' a b J => by
      rw [show (7 : Int32) = nI 7 from rfl, nI_add, show 7 * i + 7 = 7 * (i + 1) by omega]
      exact law_loop hN fin m (i + 1) k1' k2' h' s' (by omega) (by omega) J a b
    have K := fun h' s' J => nx k1 k2 h' s' (by omega) (by omega) J
    have K2 := fun h' s' J => nx (k1 + 1) (k2 + 6) h' s' (by omega) (by omega) J
    generalize gX G (nI (7 * i) : Int32).toNatClampNeg &&& 63 = x at *
    by_cases c0 : x = 0
    · rw [if_pos c0]
      exact kk_feed (d := d) hk1 hk2 I W V K
    rw [if_neg c0]
    by_cases c1 : x = 1
    · rw [if_pos c1]
      exact k_queue (d := d) hk1 hk2 I W.1 K
    rw [if_neg c1]
    by_cases c2 : x = 2
    · rw [if_pos c2]
      exact k_work (d := d) hk1 hk2 I K
    rw [if_neg c2]
    by_cases c3 : x = 3
    · rw [if_pos c3]
      exact kk_item (d := d) hk1 hk2 I W V K
    rw [if_neg c3]
    by_cases c4 : x = 4
    · rw [if_pos c4]
      exact kk_heap (d := d) hk1 hk2 I W V K
    rw [if_neg c4]
    by_cases c5 : x = 5
    · rw [if_pos c5]
      exact kk_tree (d := d) hk1 hk2 I W V K
    rw [if_neg c5]
    by_cases c6 : x = 6
    · rw [if_pos c6]
      exact kk_listed (d := d) hk1 hk2 I W V K
    rw [if_neg c6]
    by_cases c7 : x = 7
    · rw [if_pos c7]
      exact kk_shelf (d := d) hk1 hk2 I W V K
    rw [if_neg c7]
    by_cases c8 : x = 8
    · rw [if_pos c8]
      exact kk_put (d := d) hk1 hk2 I W V K
    rw [if_neg c8]
    by_cases c9 : x = 9
    · rw [if_pos c9]
      exact kk_take (d := d) hk1 hk2 I W V K
    rw [if_neg c9]
    by_cases c10 : x = 10
    · rw [if_pos c10]
      exact kk_meld (d := d) hk1 hk2 I W V K
    rw [if_neg c10]
    by_cases c11 : x = 11
    · rw [if_pos c11]
      exact kk_shelve (d := d) hk1 hk2 I W V K
    rw [if_neg c11]
    by_cases c12 : x = 12
    · rw [if_pos c12]
      exact kk_undo (d := d) hk1 hk2 I W V K
    rw [if_neg c12]
    by_cases c13 : x = 13
    · rw [if_pos c13]
      exact kk_judged (d := d) hk1 hk2 I W V K
    rw [if_neg c13]
    by_cases c14 : x = 14
    · rw [if_pos c14]
      exact kk_first (d := d) hk1 hk2 I W V K
    rw [if_neg c14]
    by_cases c15 : x = 15
    · rw [if_pos c15]
      exact kk_comes (d := d) (by omega) (by omega) I W V K2
    rw [if_neg c15]
    by_cases c16 : x = 16
    · rw [if_pos c16]
      exact kk_away (d := d) (by omega) (by omega) I W V K2
    rw [if_neg c16]
    by_cases c17 : x = 17
    · rw [if_pos c17]
      exact kk_wrongs (d := d) hk1 hk2 I W V K
    rw [if_neg c17]
    by_cases c18 : x = 18
    · rw [if_pos c18]
      exact kk_far (d := d) hk1 hk2 I W V K
    rw [if_neg c18]
    by_cases c19 : x = 19
    · rw [if_pos c19]
      exact kk_select (d := d) hk1 hk2 I W V K
    rw [if_neg c19]
    by_cases c20 : x = 20
    · rw [if_pos c20]
      exact kk_split (d := d) hk1 hk2 I W V K
    rw [if_neg c20]
    by_cases c21 : x = 21
    · rw [if_pos c21]
      exact kk_steps (d := d) hk1 hk2 I W V K
    rw [if_neg c21]
    by_cases c22 : x = 22
    · rw [if_pos c22]
      exact kk_worth (d := d) hk1 hk2 I W V K
    rw [if_neg c22]
    by_cases c23 : x = 23
    · rw [if_pos c23]
      exact kk_mean (d := d) hk1 hk2 I W V K
    rw [if_neg c23]
    by_cases c24 : x = 24
    · rw [if_pos c24]
      exact kk_bits (d := d) hk1 hk2 I W V K
    rw [if_neg c24]
    by_cases c25 : x = 25
    · rw [if_pos c25]
      exact kk_thou (d := d) hk1 hk2 I W V K
    rw [if_neg c25]
    by_cases c26 : x = 26
    · rw [if_pos c26]
      exact kk_lift (d := d) hk1 hk2 I W V K
    rw [if_neg c26]
    by_cases c27 : x = 27
    · rw [if_pos c27]
      exact kk_bound (d := d) hk1 hk2 I W V K
    rw [if_neg c27]
    by_cases c28 : x = 28
    · rw [if_pos c28]
      exact kk_depth (d := d) hk1 hk2 I W V K
    rw [if_neg c28]
    by_cases c29 : x = 29
    · rw [if_pos c29]
      exact kk_see (d := d) hk1 hk2 I W V K
    rw [if_neg c29]
    by_cases c30 : x = 30
    · rw [if_pos c30]
      exact kk_who (d := d) hk1 hk2 I W V K
    rw [if_neg c30]
    by_cases c31 : x = 31
    · rw [if_pos c31]
      exact kk_ask (d := d) hk1 hk2 I W V K
    rw [if_neg c31]
    by_cases c32 : x = 32
    · rw [if_pos c32]
      exact kk_days (d := d) hk1 hk2 I W V K
    rw [if_neg c32]
    by_cases c33 : x = 33
    · rw [if_pos c33]
      exact kk_mark (d := d) hk1 hk2 I W V K
    rw [if_neg c33]
    by_cases c34 : x = 34
    · rw [if_pos c34]
      exact kk_count (d := d) hk1 hk2 I W V K
    rw [if_neg c34]
    exact K h s ⟨I.1, I.2.1, I.2.2.1.mono (Nat.le_succ _), I.2.2.2⟩
end LAF
