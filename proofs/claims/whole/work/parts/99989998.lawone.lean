/-! THE LAW: from its entry to its end -/
theorem law_all {G : pm_G} {d : Nat} {post : pm_PT} (hN : gN G ≤ 3584) (fin : ∀ h, post (some (.int 1)) h) : Wp G (mL, d + 60 + 1, 601024, 7293034, post) (0, 0) 0 [.ref 1200, .null, .null, .null, .null, .null, .null] [] hh0 :=
  law_entry (d := d) (fun h I => law_loop (d := d) hN fin (gN G + 1) 0 464 20090 h s00 (by omega) (by omega) I (by omega) (by omega))
def lpost : pm_PT := fun v _ => v = some (.int 1)
theorem law_one {G : pm_G} (hN : gN G ≤ 3584) : Wp G (mL, 1312, 601024, 7293034, lpost) (0, 0) 0 [.ref 1200, .null, .null, .null, .null, .null, .null] [] hh0 := law_all (d := 1251) hN (fun _ => rfl)
