/-! SIFT comes to an end -/
def pot (H : Nat) : Tr → Nat
  | .leaf => 0
  | .inner _ k _ l r => (n_ls k).length * (H - n_rk k) + (pot H l + pot H r)
theorem pot_le (H : Nat) : ∀ T : Tr, pot H T ≤ (tr_its T).length * H
  | .leaf => Nat.zero_le _
  | .inner _ k _ l r => by
    have h1 := pot_le H l
    have h2 := pot_le H r
    simp only [pot, tr_its, List.length_append]
    have h3 : (n_ls k).length * (H - n_rk k) ≤ (n_ls k).length * H := Nat.mul_le_mul_left _ (Nat.sub_le _ _)
    rw [Nat.add_mul, Nat.add_mul]
    omega
theorem pot_swp (H : Nat) (b : Bool) (l r : Tr) : pot H (if b then r else l) + pot H (if b then l else r) = pot H l + pot H r := by
  cases b
  · rfl
  · exact Nat.add_comm _ _
theorem pot_drop {a b H rk rc : Nat} (hb : 1 ≤ b) (hr : rc < rk) (hk : rk ≤ H) : (a + b) * (H - rk) + 1 ≤ a * (H - rk) + b * (H - rc) := by
  have h1 : H - rk + 1 ≤ H - rc := by omega
  have h2 : b * (H - rk + 1) ≤ b * (H - rc) := Nat.mul_le_mul_left _ h1
  rw [Nat.mul_add] at h2
  rw [Nat.add_mul]
  omega
theorem siftF_some {lt : Nat → Nat → Bool} {H : Nat} : ∀ (n : Nat) (k : Nd) (l r : Tr), pot H (tn k l r) < n → TW l → TW r → TR (tn k l r) → n_rk k ≤ H → 0 < n_tg k → (tr_ids (tn k l r)).Nodup →
    ∃ k' l' r' m, siftF lt n k l r = some (k', l', r', m) ∧ m + 2 * pot H (tn k' l' r') ≤ 2 * pot H (tn k l r) + 1
  | 0, k, l, r, h, _, _, _, _, _, _ => absurd h (Nat.not_lt_zero _)
  | n + 1, k, l, r, hP, wl, wr', htr, hkH, htg, hid => by
    by_cases c : ¬ nI (n_ls k).length < n_tg k ∨ (isL l = true ∧ isL r = true)
    · refine ⟨k, l, r, 1, ?_, by omega⟩
      rw [siftF, if_pos c]
    · obtain ⟨wa, wb⟩ := swp_get (b := swp lt l r) wl wr'
      obtain ⟨t1, t2, t3, t4⟩ := htr
      obtain ⟨⟨ta1, ta2⟩, tb1, tb2⟩ := swp_get (P := fun T => (isL T = true ∨ tr_rk T < n_rk k) ∧ TR T) (b := swp lt l r) ⟨t1, t3⟩ ⟨t2, t4⟩
      have hpp := pot_swp H (swp lt l r) l r
      have hpi := tr_swp tr_ids (swp lt l r) l r
      have hne : isL (if swp lt l r then r else l) = false := by
        rcases swp_cases lt l r with ⟨s1, s2, s3⟩ | ⟨s1, s2⟩
        · rw [s1]; exact s2
        · rw [s1]
          show isL r = false
          rcases s2 with s2 | s2
          · cases hz : isL r with
            | false => rfl
            | true => exact absurd (Or.inr ⟨s2, hz⟩) c
          · exact s2.1
      rw [siftF, if_neg c]
      generalize (if swp lt l r then l else r) = b at *
      generalize (if swp lt l r then r else l) = a at *
      match a, hne with
      | .inner z kc u lc rc, _ =>
        dsimp only
        obtain ⟨⟨wc1, wc2, wc3⟩, wlc, wrc⟩ := wa
        have hrk : n_rk kc < n_rk k := by
          rcases ta1 with q | q
          · cases q
          · exact q
        have hlen : 1 ≤ (n_ls kc).length := List.length_pos_iff.mpr wc1
        have hdrop := pot_drop (a := (n_ls k).length) hlen hrk hkH
        have hid2 : (k.1 :: (tr_ids (.inner z kc u lc rc) ++ tr_ids b)).Nodup := (List.Perm.cons _ hpi).nodup_iff.mpr hid
        obtain ⟨nk, nab⟩ := List.nodup_cons.mp hid2
        obtain ⟨na, nb, ndis⟩ := List.nodup_append.mp nab
        have eP : pot H (tn k l r) = (n_ls k).length * (H - n_rk k) + ((n_ls kc).length * (H - n_rk kc) + (pot H lc + pot H rc) + pot H b) := by
          simp only [pot] at hpp ⊢
          rw [← hpp]
        split
        next c2 =>
          obtain ⟨i1, i2⟩ := isL_ids c2.1
          have e0 : pot H lc = 0 ∧ pot H rc = 0 := by
            constructor
            · cases lc with
              | leaf => rfl
              | inner => cases c2.1
            · cases rc with
              | leaf => rfl
              | inner => cases c2.2
          have eP2 : pot H (tn (k.1, n_rk k, n_tg k, n_ld kc, n_ls k ++ n_ls kc) .leaf b) = ((n_ls k).length + (n_ls kc).length) * (H - n_rk k) + (0 + pot H b) := by
            simp [pot, n_ls, n_rk]
          obtain ⟨k', l', r', m, h1, h2⟩ := siftF_some (lt := lt) (H := H) n (k.1, n_rk k, n_tg k, n_ld kc, n_ls k ++ n_ls kc) .leaf b (by rw [eP2]; omega) trivial wb ⟨Or.inl rfl, tb1, trivial, tb2⟩ hkH htg (by
            show (k.1 :: ([] ++ tr_ids b)).Nodup
            exact List.nodup_cons.mpr ⟨fun q => nk (List.mem_append_right _ (by simpa using q)), by simpa using nb⟩)
          rw [h1]
          exact ⟨k', l', r', m + 1, rfl, by omega⟩
        next c2 =>
          have eP1 : pot H (tn (kc.1, n_rk kc, n_tg kc, n_ld kc, []) lc rc) = pot H lc + pot H rc := by simp [pot, n_ls, n_rk]
          obtain ⟨c', lc', rc', m1, h1, h2⟩ := siftF_some (lt := lt) (H := H) n (kc.1, n_rk kc, n_tg kc, n_ld kc, []) lc rc (by rw [eP1]; omega) wlc wrc ta2 (by show n_rk kc ≤ H; omega) wc3 na
          rw [h1]
          dsimp only
          obtain ⟨g1, g2, g3, g4, g5, g6, g7, g8⟩ := siftF_spec n _ _ _ _ _ _ _ h1 wlc wrc na wc3 ta2 (Or.inl rfl)
          have g9 := g8 (Or.inr c2)
          have eP2 : pot H (tn (k.1, n_rk k, n_tg k, n_ld kc, n_ls k ++ n_ls kc) (tn c' lc' rc') b) = ((n_ls k).length + (n_ls kc).length) * (H - n_rk k) + (pot H (tn c' lc' rc') + pot H b) := by
            simp [pot, n_ls, n_rk]
          obtain ⟨k', l', r', m, h3, h4⟩ := siftF_some (lt := lt) (H := H) n (k.1, n_rk k, n_tg k, n_ld kc, n_ls k ++ n_ls kc) (tn c' lc' rc') b (by rw [eP2]; omega) ⟨⟨g9.1, g9.2, by rw [g1.2.2]; exact wc3⟩, g5, g6⟩ wb ⟨Or.inr (by show n_rk c' < n_rk k; rw [g1.2.1]; exact hrk), tb1, g7, tb2⟩ hkH htg (by
            refine List.nodup_cons.mpr ⟨fun q => nk ?_, List.nodup_append.mpr ⟨g3, nb, fun x hx y hy => ndis x (g2 x hx) y hy⟩⟩
            rcases List.mem_append.mp q with q | q
            · exact List.mem_append_left _ (g2 _ q)
            · exact List.mem_append_right _ q)
          rw [h3]
          exact ⟨k', l', r', m + m1 + 1, rfl, by omega⟩
/-- SIFT -/
def siftT (lt : Nat → Nat → Bool) (k : Nd) (l r : Tr) : Tr := match siftF lt 400 k l r with
  | some (k', l', r', _) => tn k' l' r'
  | none => tn k l r
theorem siftT_ok {lt : Nat → Nat → Bool} {k : Nd} {l r : Tr} (wl : TW l) (wr' : TW r) (htr : TR (tn k l r)) (hk : n_rk k ≤ 16) (htg : 0 < n_tg k) (hid : (tr_ids (tn k l r)).Nodup) (hlen : (tr_its (tn k l r)).length ≤ 20) :
    ∃ k' l' r' m, siftF lt 400 k l r = some (k', l', r', m) ∧ siftT lt k l r = tn k' l' r' ∧ m ≤ 1000 := by
  have h1 := pot_le 16 (tn k l r)
  obtain ⟨k', l', r', m, h2, h3⟩ := siftF_some (lt := lt) (H := 16) 400 k l r (by omega) wl wr' htr hk htg hid
  exact ⟨k', l', r', m, h2, by rw [siftT, h2], by omega⟩
