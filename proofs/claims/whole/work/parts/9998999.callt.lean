/-! THE LAW's call of a method that tries -/
section PTC
variable {G : pm_G} {μ : pm_M} {k : Nat × Nat} {pc : Nat} {l st : List Value} {h : pm_H}
variable {mi : pm_I} {d n idx : Nat} {hh : List (Nat × Nat × Nat × Nat)} {As stk : List Value} {Q : Int32 → pm_H → Prop}
theorem w_callT (hd : decode (mi_b μ) pc = .ok (.invokestatic idx, 3)) (hcw : Cond.codeWith mi.1 mi.2.1 mi.2.2.1 mi.2.2.2 hh ∈ gw) (hin : Cond.initialized mi.1.cls ∈ gw) (hne : mi.1.cls ≠ "java/lang/invoke/MethodHandle" ∧ mi.1.cls ≠ "java/lang/invoke/VarHandle" ∧ (parseMethodDescriptor mi.1.desc).map (fun d => d.parameters.length) = some n) (h45 : mi.2.2.1 ≤ 45) (hl : Cond.methodLink (mi_o μ) idx mi.1 ∈ gw) (hi : Cond.static mi.1 ∈ gw)
    (hs : stk = As.reverse ++ st) (hn : As.length = n) (hr : (st.map (fun v => v.category)).sum ≤ 8) (hdd : d + 1 ≤ μ.2.1) (hmc : k.1 + 1 ≤ μ.2.2.1 ∧ k.2 + 6 ≤ μ.2.2.2.1)
    (hc : ct' G d mi hh As h Q) (kk : ∀ r h', Q r h' → Wp G μ (k.1 + 1, k.2 + 6) (pc + 3) l (.int r :: st) h') : Wp G μ k pc l stk h := by
  intro ad0 n0 ad p e s m args below meth c0 H ls locs hC hn0 hE hS hSS hL hl0 hst
  subst hs
  have hT := hC.2.2.2.2.2.2.2.2
  have hM := hc (fun v hv => hst _ (by simp [hv])) ad
  have hG : GoodIn gw (va_wsS (mi_o μ) idx mi.1 (Cond.codeWith mi.1 mi.2.1 mi.2.2.1 mi.2.2.2 hh :: gw)) := gw_in fun w hw => by
    rcases List.mem_append.mp (show w ∈ [Cond.methodLink (mi_o μ) idx mi.1, .static mi.1, .initialized mi.1.cls] ++ (Cond.codeWith mi.1 mi.2.1 mi.2.2.1 mi.2.2.2 hh :: gw) from hw) with z | z
    · simp only [List.mem_cons, List.not_mem_nil, or_false] at z
      rcases z with z | z | z <;> rw [z]
      · exact hl
      · exact hi
      · exact hin
    · rcases List.mem_cons.mp z with z | z
      · rw [z]; exact hcw
      · exact z
  have cw := vx_cwSW (R := pm_rm μ.2.1 μ.2.2.1 μ.2.2.2.1) (rm := pm_rm d 1 6) n hC.2.2.2.2.1 hG rfl rfl rfl hne ⟨hdd, by show 8 + (mi.2.2.1 + 11) + 64 * d ≤ 64 * μ.2.1; omega⟩
  rw [List.map_append, List.map_reverse]
  exact pm_back hC hn0 hE hSS hL hl0 (fun v hv => hst v (by simp [hv])) (vx_runSW (own := mi_o μ) ⟨hC.1, hC.2.1, hC.2.2.1, hC.2.2.2.1, hC.2.2.2.2.1⟩ hM cw ⟨pm_blind, fun U hU hW => pm_pre hS hT hSS hU hW⟩ rfl (by rw [List.length_map]; exact hn) hL.1 rfl (lv_room (pm_cat hr)) hd hmc) (fun v h' q => by
    obtain ⟨r, hv, hq⟩ := q
    rw [hv]
    exact kk r h' hq)
end PTC
