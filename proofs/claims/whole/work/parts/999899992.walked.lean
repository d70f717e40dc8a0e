/-! A LESSER ROOM is enough; the walk at the machine -/
theorem room_less {s : State} {pl : Platform} {R R' : Room} (h : s.hasRoom pl R = true) (h1 : R'.frames ≤ R.frames) (h2 : R'.cells ≤ R.cells) (h3 : R'.slots ≤ R.slots) (h4 : R'.locals ≤ R.locals) : s.hasRoom pl R' = true := by
  unfold State.hasRoom at h ⊢
  simp only [Bool.and_eq_true, decide_eq_true_eq] at h ⊢
  obtain ⟨⟨⟨⟨a, b1, b2, b3, b4, b5⟩, c⟩, d⟩, f⟩ := h
  exact ⟨⟨⟨⟨by omega, by omega, by omega, by omega, by omega, b5⟩, by omega⟩, by omega⟩, f⟩
theorem W_room {p : Program} {l : Launch} {e : Env} {R R' : Room} {s : State} {m : MethodId} {args : Array Value} {below : List Frame} {meth : Method} {c : Code} {H : Heap} {locs : List Loc} {cells slots : Nat} {Q : State → Prop} {g : JFrame} (h1 : R'.frames ≤ R.frames) (h2 : R'.cells ≤ R.cells) (h3 : R'.slots ≤ R.slots) (h4 : R'.locals ≤ R.locals) (k : W p l e R' s m args below meth c H locs cells slots Q g) : W p l e R s m args below meth c H locs cells slots Q g := fun T hT X =>
  k T hT ⟨X.admits, X.cas, X.clock, X.frames, room_less X.room h1 h2 h3 h4, X.hears, X.method, X.code, X.here, X.tail, X.warmed, X.limits, X.bytes, X.same⟩
theorem W_post {p : Program} {l : Launch} {e : Env} {R : Room} {s : State} {m : MethodId} {args : Array Value} {below : List Frame} {meth : Method} {c : Code} {H : Heap} {locs : List Loc} {cells slots : Nat} {Q Q' : State → Prop} {g : JFrame} (hQ : ∀ t, Q t → Q' t) (k : W p l e R s m args below meth c H locs cells slots Q g) : W p l e R s m args below meth c H locs cells slots Q' g := fun T hT X => by
  obtain ⟨t, a, b⟩ := k T hT X
  exact ⟨t, a, hQ t b⟩
/-- the law's walk, at the machine: what is still to be given is what stands at the start -/
theorem law_walked {G : pm_G} {p : Program} {e : Env} {s : State} {m : MethodId} {below : List Frame} {meth : Method} {c : Code} {a : Array Value} {ad : pm_AD} {ls : Array Slot} (hN : gN G ≤ 3584) (hB : gB G = s.heap.size) (hC : pm_Cx G mL p s m a meth c) (hS : pm_S G ad hh0 s.heap) (hL : pm_L ad ls 7 [.ref 1200, .null, .null, .null, .null, .null, .null]) : W p (gl G) e room_1 s m a below meth c s.heap [] 0 0 (lw_Z below a s) (F0 m 0 ls []) :=
  W_post (fun t h => law_end hB h) (W_room (R' := pm_rm 1312 601024 7293034) (by decide) (by decide) (by decide) (by decide) (law_one hN ad 0 ad p e s m a below meth c s.heap ls [] hC (Nat.zero_le _) (fun _ _ => rfl) hS va_S.rf hL (fun v hv => by
    simp only [List.mem_cons, List.not_mem_nil, or_false] at hv
    rcases hv with q | q | q | q | q | q | q <;> rw [q]
    · exact Or.inr (by decide)
    all_goals trivial) (fun v hv => by cases hv)))
