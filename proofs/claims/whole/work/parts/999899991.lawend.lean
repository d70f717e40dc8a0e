/-- the law's end said of the start -/
theorem law_end {G : pm_G} {ad0 : pm_AD} {n0 : Nat} {below : List Frame} {a : Array Value} {s t : State} (hB : gB G = s.heap.size) (h : MQ below (pm_Q G ad0 n0 lpost) a s 601024 7293034 (pm_A G) t) : lw_Z below a s t := by
  obtain ⟨o, h1, h2, ⟨⟨v, ad', h', ho, hp, -⟩, -⟩, L, hF, hL⟩ := h
  have hp : v = some (.int 1) := hp
  subst hp
  obtain ⟨hv, hW, hS⟩ := hF
  refine ⟨o, h1, h2, ho, ?_⟩
  have hd0 := Drawn.sameBut.refl s.drawn lw_cs
  have hS' : s.sameButNew ({ t with vm := s.vm } : State) [] 601024 7293034 := hS.weaken (fun y hy hlt => by
    have : gB G ≤ y.base := hL y hy
    rw [hB] at this
    exact absurd hlt (Nat.not_lt.mpr this)) (Nat.le_refl _) (Nat.le_refl _)
  exact lw_closed (d0 := s.drawn) hd0 hv hW hS'
