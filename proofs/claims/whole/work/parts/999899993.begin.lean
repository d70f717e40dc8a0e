/-! NO CELL YET -/
def ad0 (G : pm_G) : pm_AD := fun x => if 1000 ≤ x ∧ x < 1201 then some (gC G (x - 1000)) else none
theorem pm_ad_start (G : pm_G) : pm_ad G 0 (ad0 G) := by
  refine ⟨fun a h => absurd h (Nat.not_lt_zero _), fun k => ?_, Nat.zero_le _⟩
  unfold ad0
  by_cases h : k < 201
  · rw [if_pos ⟨by omega, by omega⟩, if_pos h, Nat.add_sub_cancel_left]
  · rw [if_neg (by omega), if_neg h]
theorem pm_S_start {G : pm_G} {H : Heap} : pm_S G (ad0 G) hh0 H := by
  refine ⟨?_, ?_, pm_ad_start G, ?_⟩
  · have e : pm_ws G (ad0 G) hh0 = [] := rfl
    rw [e]
    unfold va_P
    simp
  · have e : pm_ws G (ad0 G) hh0 = [] := rfl
    rw [e]
    unfold va_D
    simp
  · intro a k
    exact Or.inr (show 1000 ≤ 2000 by decide)
theorem pm_L_start {G : pm_G} {ls : Array Slot} (hn : ls.size = 7) (hw : lv_wf ls) (h0 : ls[0]? = some (.val (.ref (gC G 200)))) : pm_L (ad0 G) ls 7 [.ref 1200, .null, .null, .null, .null, .null, .null] := by
  refine ⟨hn, hw, rfl, fun i v h hv => ?_⟩
  match i, h with
  | 0, h =>
    have h : Value.ref 1200 = v := Option.some.inj h
    subst h
    rw [h0]
    rfl
  | 1, h | 2, h | 3, h | 4, h | 5, h | 6, h => exact absurd (Option.some.inj h).symm hv
  | n + 7, h => simp at h
theorem law_start {G : pm_G} {p : Program} {e : Env} {s : State} {m : MethodId} {below : List Frame} {meth : Method} {c : Code} {a : Array Value} {ls : Array Slot} (hN : gN G ≤ 3584) (hB : gB G = s.heap.size) (hC : pm_Cx G mL p s m a meth c) (hn : ls.size = 7) (hw : lv_wf ls) (h0 : ls[0]? = some (.val (.ref (gC G 200)))) : W p (gl G) e room_1 s m a below meth c s.heap [] 0 0 (lw_Z below a s) (F0 m 0 ls []) :=
  law_walked hN hB hC pm_S_start (pm_L_start hn hw h0)
