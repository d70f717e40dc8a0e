/-! THE REFERENCE: a LAW worked out -/
theorem nI_div16 {v : Nat} (hv : v < 2 ^ 31) : nI v / 16 = nI (v / 16) := by
  rw [i_eq, Int32.toInt_div, nI_toInt hv, nI_toInt (by omega), show (16 : Int32).toInt = 16 from rfl, Int.tdiv_eq_ediv_of_nonneg (by omega), Int.bmod_eq_of_le (by omega) (by omega)]
  omega
theorem nI_mod16 {v : Nat} (hv : v < 2 ^ 31) : nI v - nI v / 16 * 16 = nI (v % 16) := by
  rw [nI_div16 hv, show (16 : Int32) = nI 16 from rfl, pk_mul]
  have e : nI v = nI (v % 16) + nI (v / 16 * 16) := by rw [nI_add]; congr 1; omega
  rw [e]
  simp [Int32.add_sub_cancel]
def CR (c : Nat → Int32) : Nat → List (Nat × Nat) → Prop
  | i, [] => c i = 0
  | i, o :: r => (c i = nI (o.1 + 16 * o.2) ∧ o.1 + 16 * o.2 < 2 ^ 31) ∧ CR c (i + 1) r
theorem fp_u456 (h : pm_H) (S F P : Nat → Int32) (i : Nat) (v : Int32) : si (s8 (fp h F P) S) 456 i v = s8 (fp h (up1 F i v) P) S := by
  have : pm_u (gi (s8 (fp h F P) S)) 456 i v = gi (s8 (fp h (up1 F i v) P) S) := by
    funext a
    by_cases ha : a = 456
    · subst ha
      rw [pm_u_at, s8_ne _ _ (by decide), s8_ne _ _ (by decide)]
      rfl
    · rw [pm_u_ne _ _ _ ha]
      by_cases hb : a = 458
      · subst hb; rw [s8_gi, s8_gi]
      · rw [s8_ne _ _ hb, s8_ne _ _ hb]
        show (if a = 456 then F else if a = 457 then P else gi h a) = (if a = 456 then up1 F i v else if a = 457 then P else gi h a)
        rw [if_neg ha, if_neg ha]
  show (h.1, pm_u (gi (s8 (fp h F P) S)) 456 i v, h.2.2) = _
  rw [this]; rfl
theorem fp_u457 (h : pm_H) (S F P : Nat → Int32) (i : Nat) (v : Int32) : si (s8 (fp h F P) S) 457 i v = s8 (fp h F (up1 P i v)) S := by
  have : pm_u (gi (s8 (fp h F P) S)) 457 i v = gi (s8 (fp h F (up1 P i v)) S) := by
    funext a
    by_cases ha : a = 457
    · subst ha
      rw [pm_u_at, s8_ne _ _ (by decide), s8_ne _ _ (by decide)]
      rfl
    · rw [pm_u_ne _ _ _ ha]
      by_cases hb : a = 458
      · subst hb; rw [s8_gi, s8_gi]
      · rw [s8_ne _ _ hb, s8_ne _ _ hb]
        show (if a = 456 then F else if a = 457 then P else gi h a) = (if a = 456 then F else if a = 457 then up1 P i v else gi h a)
        rw [if_neg ha, if_neg ha]
  show (h.1, pm_u (gi (s8 (fp h F P) S)) 457 i v, h.2.2) = _
  rw [this]; rfl
theorem fp_456 (h : pm_H) (S F P : Nat → Int32) : gi (s8 (fp h F P) S) 456 = F := s8_ne _ _ (by decide)
theorem fp_457 (h : pm_H) (S F P : Nat → Int32) : gi (s8 (fp h F P) S) 457 = P := s8_ne _ _ (by decide)
/-- the reference's law -/
def Ml (h : pm_H) : Prop := Mk h ∧ gp h 446 11 = 453 ∧ h.1[453]? = some (1, 2200) ∧ gp h 446 15 = 456 ∧ h.1[456]? = some (1, 4) ∧ gp h 446 16 = 457 ∧ h.1[457]? = some (1, 64)
theorem La.ml {h : pm_H} (hL : La h) : Ml h := ⟨hL.mk, hL.p (by decide +kernel) (by omega), hL.k (by decide +kernel), hL.p (by decide +kernel) (by omega), hL.k (by decide +kernel), hL.p (by decide +kernel) (by omega), hL.k (by decide +kernel)⟩
section RLW
variable {G : pm_G} {d : Nat} {h : pm_H}
theorem r_worked {k : Nat} {x y : Int32} {Q : Int32 → pm_H → Prop} (hk : 4 ≤ k ∧ k ≤ 10) (w : Q (binO k x y) h) : ci G (d + 1) m_X12_worked [.int (nI k), .int x, .int y] h Q := by
  refine ci_wp rfl (Nat.le_of_ble_eq_true rfl) rfl (x_X12_worked ?_)
  have hc : k = 4 ∨ k = 5 ∨ k = 6 ∨ k = 7 ∨ k = 8 ∨ k = 9 ∨ k = 10 := by omega
  rcases hc with e | e | e | e | e | e | e <;> subst e
  · rw [show nI 4 = 4 from rfl, if_pos rfl]
    exact ⟨_, rfl, w⟩
  · rw [show nI 5 = 5 from rfl, if_neg (by decide), if_pos rfl]
    exact ⟨_, rfl, w⟩
  · rw [show nI 6 = 6 from rfl, if_neg (by decide), if_neg (by decide), if_pos rfl]
    exact ⟨_, rfl, w⟩
  · rw [show nI 7 = 7 from rfl, if_neg (by decide), if_neg (by decide), if_neg (by decide), if_pos rfl]
    have w : Q (if x < y then 1 else 0) h := w
    by_cases c : x < y
    · rw [if_neg (Int32.not_le.mpr c)]; rw [if_pos c] at w; exact ⟨_, rfl, w⟩
    · rw [if_pos (Int32.not_lt.mp c)]; rw [if_neg c] at w; exact ⟨_, rfl, w⟩
  · rw [show nI 8 = 8 from rfl, if_neg (by decide), if_neg (by decide), if_neg (by decide), if_neg (by decide), if_pos rfl]
    have w : Q (if x = y then 1 else 0) h := w
    by_cases c : x = y
    · rw [if_pos c]; rw [if_pos c] at w; exact ⟨_, rfl, w⟩
    · rw [if_neg c]; rw [if_neg c] at w; exact ⟨_, rfl, w⟩
  · rw [show nI 9 = 9 from rfl, if_neg (by decide), if_neg (by decide), if_neg (by decide), if_neg (by decide), if_neg (by decide), if_pos rfl]
    have w : Q (if x = 0 then 0 else if y = 0 then 0 else 1) h := w
    by_cases c : x = 0
    · rw [if_pos c]; rw [if_pos c] at w; exact ⟨_, rfl, w⟩
    · rw [if_neg c]; rw [if_neg c] at w
      by_cases c2 : y = 0
      · rw [if_pos c2]; rw [if_pos c2] at w; exact ⟨_, rfl, w⟩
      · rw [if_neg c2]; rw [if_neg c2] at w; exact ⟨_, rfl, w⟩
  · rw [show nI 10 = 10 from rfl, if_neg (by decide), if_neg (by decide), if_neg (by decide), if_neg (by decide), if_neg (by decide), if_neg (by decide)]
    have w : Q (if x = 0 then (if y = 0 then 0 else 1) else 1) h := w
    by_cases c : x = 0
    · rw [if_pos c]; rw [if_pos c] at w
      by_cases c2 : y = 0
      · rw [if_pos c2]; rw [if_pos c2] at w; exact ⟨_, rfl, w⟩
      · rw [if_neg c2]; rw [if_neg c2] at w; exact ⟨_, rfl, w⟩
    · rw [if_neg c]; rw [if_neg c] at w; exact ⟨_, rfl, w⟩
end RLW
