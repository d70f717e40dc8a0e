/-! THE THROW as a row -/
section PXS
variable {G : pm_G} {px : pm_H → Prop} {μ : pm_M} {k : Nat × Nat} {pc : Nat} {l st : List Value} {h : pm_H}
theorem wx_throw (hmo : mi_o μ = "RaisedQueue") (d0 : decode (mi_b μ) pc = .ok (.new 246, 3)) (d3 : decode (mi_b μ) (pc + 3) = .ok (.dup, 1)) (d4 : decode (mi_b μ) (pc + 4) = .ok (.ldc 248, 2)) (d6 : decode (mi_b μ) (pc + 4 + 2) = .ok (.invokespecial 250, 3)) (d9 : decode (mi_b μ) (pc + 4 + 2 + 3) = .ok (.athrow, 1))
    (hr : (st.map (fun v => v.category)).sum ≤ 8) (hd : 6 ≤ μ.2.1) (hc : k.1 + 1 ≤ μ.2.2.1) (hs : k.2 + 6 ≤ μ.2.2.2.1) (hp : px h) : WpX G px μ k pc l st h := by
  intro ad0 n0 ad p e s m args below meth c H ls locs hC hxt hn0 hE hS hSS hL hl hst
  have hT := hC.2.2.2.2.2.2.2.2
  obtain ⟨-, -, -, -, -, -, u1, u2, ⟨s1, k1⟩, ⟨s2, k2⟩, str⟩ := hT.2.1
  have hown : s.vm.findClass "RaisedQueue" = some m.cls := by rw [← hmo]; exact hC.2.2.2.1
  refine ns_throwS (text := "no such place in a heap") (A := pm_A G) hC.1 hC.2.1 str hown hC.2.2.2.2.1 k1 u1 u2 hSS (hL.1.trans hC.2.2.1.symm) d0 d3 d4 d6 d9 hxt (by show 2 + 3 < μ.2.1; omega) ?_ hc hs hC.2.2.2.2.2.2.1 (fun t hv hz hq => ?_) hSS.2.2 hc hs
  · have h8 := pm_cat (ad := ad) hr
    show (List.map (fun v => v.category) (st.map (pm_vm ad))).sum + (13 * (2 + 1) + 43) ≤ 64 * μ.2.1
    omega
  · refine ⟨(ad, h), ⟨hp, hn0, hE⟩, ⟨rfl, hS.1.kept (fun k q hk => hq _ (vx_lt hS.1 hk)), hS.2⟩, Nat.le_trans hSS.1 hz, fun q h1 h2 => ?_⟩
    rw [hq q (Nat.lt_of_lt_of_le h1 hSS.1)]
    exact hSS.2.1 q h1 h2
theorem wx_throwW (hmo : mi_o μ = "RaisedQueue") (d0 : decode (mi_b μ) pc = .ok (.new 246, 3)) (d3 : decode (mi_b μ) (pc + 3) = .ok (.dup, 1)) (d4 : decode (mi_b μ) (pc + 4) = .ok (.ldc_w 256, 3)) (d6 : decode (mi_b μ) (pc + 4 + 3) = .ok (.invokespecial 250, 3)) (d9 : decode (mi_b μ) (pc + 4 + 3 + 3) = .ok (.athrow, 1))
    (hr : (st.map (fun v => v.category)).sum ≤ 8) (hd : 6 ≤ μ.2.1) (hc : k.1 + 1 ≤ μ.2.2.1) (hs : k.2 + 6 ≤ μ.2.2.2.1) (hp : px h) : WpX G px μ k pc l st h := by
  intro ad0 n0 ad p e s m args below meth c H ls locs hC hxt hn0 hE hS hSS hL hl hst
  have hT := hC.2.2.2.2.2.2.2.2
  obtain ⟨-, -, -, -, -, -, u1, u2, ⟨s1, k1⟩, ⟨s2, k2⟩, str⟩ := hT.2.1
  have hown : s.vm.findClass "RaisedQueue" = some m.cls := by rw [← hmo]; exact hC.2.2.2.1
  refine ns_throwW (text := "no such item in a heap") (A := pm_A G) hC.1 hC.2.1 str hown hC.2.2.2.2.1 k2 u1 u2 hSS (hL.1.trans hC.2.2.1.symm) d0 d3 d4 d6 d9 hxt (by show 2 + 3 < μ.2.1; omega) ?_ hc hs hC.2.2.2.2.2.2.1 (fun t hv hz hq => ?_) hSS.2.2 hc hs
  · have h8 := pm_cat (ad := ad) hr
    show (List.map (fun v => v.category) (st.map (pm_vm ad))).sum + (13 * (2 + 1) + 43) ≤ 64 * μ.2.1
    omega
  · refine ⟨(ad, h), ⟨hp, hn0, hE⟩, ⟨rfl, hS.1.kept (fun k q hk => hq _ (vx_lt hS.1 hk)), hS.2⟩, Nat.le_trans hSS.1 hz, fun q h1 h2 => ?_⟩
    rw [hq q (Nat.lt_of_lt_of_le h1 hSS.1)]
    exact hSS.2.1 q h1 h2
end PXS
