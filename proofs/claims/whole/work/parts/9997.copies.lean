/-! THE CLASS: names and a LAW copied -/
section CPY
variable {G : pm_G} {d : Nat} {h : pm_H}
theorem s_ncopy {o o2 m : Nat} {ns : List (List Nat)} {Q : pm_H → Prop} (h1 : h.1[o]? = some (0, 3)) (h2 : gp h o 0 = o + 1) (h3 : h.1[o + 1]? = some (2, m)) (k1 : h.1[o2]? = some (0, 3)) (k2 : gp h o2 0 = o2 + 1) (k3 : h.1[o2 + 1]? = some (2, m)) (hN : NmC h o2 ns) (hm : ns.length ≤ m) (hm2 : m < 1000) (ho : o ≠ o2)
    (w : ∀ h', h'.1 = h.1 → (∀ a, a ≠ o → gi h' a = gi h a) → (∀ a, a ≠ o + 1 → gj h' a = gj h a) → gf h' = gf h → gp h' = gp h → NmC h' o ns → Q h') : cv G (d + 2) m_X3_copyFrom [.ref o, .ref o2] h Q := by
  refine cv_wp rfl (Nat.le_of_ble_eq_true rfl) rfl (x_X3_copyFrom ⟨h1, ?_⟩)
  rintro _ rfl
  have key := up_to (P := fun n => ∀ hX : pm_H, hX.1 = h.1 → (∀ a, a ≠ o → gi hX a = gi h a) → (∀ a, a ≠ o + 1 → gj hX a = gj h a) → gf hX = gf h → gp hX = gp h → gi hX o 1 = nI n → (∀ i, i < n → gj hX (o + 1) i = lN (e32 (ns.getD i []))) → Wp G (m_X3_copyFrom, d + 2, 0, 0, fun v h1 => v = none ∧ Q h1) (0, 0) 7 [.ref o, .ref o2, .int (nI n)] [] hX) ns.length (fun n hn ih => ?_) ?_
  · refine key _ rfl (fun a ha => pm_u_ne _ _ _ ha) (fun _ _ => rfl) rfl rfl ?_ (fun i hi => absurd hi (Nat.not_lt_zero i))
    show pm_u (gi h) o 1 0 o 1 = _
    rw [pm_u_at]; exact if_pos rfl
  · intro hX e1 e2 e3 e4 e5 e6 e7
    refine x_X3_copyFrom_7 ?_
    rw [e1, e5, e2 o2 (fun q => ho q.symm), hN.1, k2, if_neg (show ¬ nI ns.length ≤ nI n from nI_nlen hn (by omega))]
    refine ⟨k1, m, k3, ?_⟩
    rw [if_neg (show ¬ Int32.ofNat m ≤ nI n from nI_nlen (by omega) (by omega)), cl_nI (show n < 2 ^ 31 by omega), nI_1, e3 (o2 + 1) (by omega), hN.2 n hn]
    refine ⟨vp_nI (by omega) (by omega), h1, s_nadd (d := d) (h := hX) (by rw [e1]; exact h1) (by rw [e5]; exact h2) (by rw [e1]; exact h3) e6 (by omega) hm2 ?_⟩
    refine ih _ e1 (fun a ha => (pm_u_ne _ _ _ ha).trans (e2 a ha)) (fun a ha => (pm_u_ne _ _ _ ha).trans (e3 a ha)) e4 e5 ?_ (fun i hi => ?_)
    · show pm_u (gi hX) o 1 (nI (n + 1)) o 1 = _
      rw [pm_u_at]; exact if_pos rfl
    · show pm_u (gj hX) (o + 1) n (lN (e32 (ns.getD n []))) (o + 1) i = _
      rw [pm_u_at]
      unfold pm_ui
      by_cases c : i = n
      · rw [if_pos c, c]
      · rw [if_neg c]; exact e7 i (by omega)
  · intro hX e1 e2 e3 e4 e5 e6 e7
    refine x_X3_copyFrom_7 ?_
    rw [e1, e2 o2 (fun q => ho q.symm), hN.1, if_pos (Int32.le_refl _)]
    exact ⟨k1, rfl, w hX e1 e2 e3 e4 e5 ⟨e6, e7⟩⟩
theorem s_lawCopy {Q : pm_H → Prop} (hL : La h) (w : ∀ h', h'.1 = h.1 → h'.2.2 = h.2.2 → (∀ a, a ≠ 17 → a ≠ 19 → gi h' a = gi h a) → gi h' 17 1 = gi h 36 1 → (∀ j, j < 1000 → gi h' 19 j = gi h 38 j) → Q h') : cv G (d + 2) m_X1_copyFrom [.ref 17, .ref 36] h Q := by
  obtain ⟨-, -, -, -, a1, a2, a3⟩ := hL.lwr
  obtain ⟨b1, b2, b3, -⟩ := hL.lr
  refine cv_wp rfl (Nat.le_of_ble_eq_true rfl) rfl (x_X1_copyFrom ⟨b1, a1, ?_⟩)
  rw [b2, a2]
  refine ⟨b3.1, row_copy (d := d) b3 a3 rfl ⟨a1, b1, ?_⟩⟩
  rintro _ rfl
  have e36 : gi (sm h (cpM (gi h) 19 38 1000)) 36 1 = gi h 36 1 := by
    show (if (36 : Nat) = 19 ∧ (1 : Nat) < 1000 then gi h 38 1 else gi h 36 1) = _
    rw [if_neg (fun q => absurd q.1 (by decide))]
  rw [e36]
  refine ⟨rfl, w _ rfl rfl (fun a h1 h2 => ?_) ?_ (fun j hj => ?_)⟩
  · refine (pm_u_ne _ _ _ h1).trans ?_
    funext j
    show (if a = 19 ∧ j < 1000 then gi h 38 j else gi h a j) = _
    rw [if_neg (fun q => h2 q.1)]
  · show pm_u (cpM (gi h) 19 38 1000) 17 1 (gi h 36 1) 17 1 = _
    rw [pm_u_at]; exact if_pos rfl
  · show pm_u (cpM (gi h) 19 38 1000) 17 1 (gi h 36 1) 19 j = _
    rw [pm_u_ne _ _ _ (show 19 ≠ 17 by decide)]
    show (if (19 : Nat) = 19 ∧ j < 1000 then gi h 38 j else gi h 19 j) = _
    rw [if_pos ⟨rfl, hj⟩]
end CPY
