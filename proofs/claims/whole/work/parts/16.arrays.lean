/-! ARRAYS, CONSTANTS, WHAT IS MADE -/
theorem pm_en_a {G : pm_G} {ad : pm_AD} {h : pm_H} {a t n : Nat} (hk : h.1[a]? = some (t + 1, n)) : pm_en G ad h a = match t with
    | 0 => .inl (gA G 0, n, .inl (gi h a))
    | 1 => .inl (gA G 1, n, .inr (.inl (gj h a)))
    | 2 => .inl (gA G 2, n, .inl (gi h a))
    | 3 => .inl (gA G 3, n, .inr (.inr (.inl (gf h a))))
    | 4 => .inl (gA G 4, n, .inl (gi h a))
    | _ => .inl (gA G 5, n, .inr (.inr (.inr (.inr (fun j => ad (gp h a j)))))) := by
  simp only [pm_en, List.getD, hk, Option.getD_some]
  match t with
  | 0 => rfl
  | 1 => rfl
  | 2 => rfl
  | 3 => rfl
  | 4 => rfl
  | n + 5 => rfl
section PMA
variable {G : pm_G} {μ : pm_M} {k : Nat × Nat} {pc : Nat} {l st : List Value} {h : pm_H}
theorem w_alen {a t n : Nat} {v : Int32} (hd : decode (mi_b μ) pc = .ok (.arraylength, 1)) (hk : h.1[a]? = some (t + 1, n)) (ht : t < 6) (hv : Int32.ofNat n = v) (kk : Wp G μ k (pc + 1) l (.int v :: st) h) : Wp G μ k pc l (.ref a :: st) h := by
  intro ad0 n0 ad p e s m args below meth c0 H ls locs hC hn0 hE hS hSS hL hl hst
  obtain ⟨r, hr, hw⟩ := pm_cell hS (pm_lt hk)
  rw [pm_en_a hk] at hw
  have K := kk ad0 n0 ad p e s m args below meth c0 H ls locs hC hn0 hE hS hSS hL hl (fun v hv => by
    rcases List.mem_cons.mp hv with z | z
    · rw [z]; trivial
    · exact pm_tl hst v z)
  have hT := hC.2.2.2.2.2.2.2.2.1
  have e1 : pm_vm ad (.ref a) = .ref r := by simp [pm_vm, hr, va_rf]
  rw [List.map_cons, e1]
  match t, ht with
  | 0, _ => exact va_alen hC.1 hC.2.1 hT hS.1 a 0 hw rfl hv hd K
  | 1, _ => exact va_alen hC.1 hC.2.1 hT hS.1 a 1 hw rfl hv hd K
  | 2, _ => exact va_alen hC.1 hC.2.1 hT hS.1 a 2 hw rfl hv hd K
  | 3, _ => exact va_alen hC.1 hC.2.1 hT hS.1 a 3 hw rfl hv hd K
  | 4, _ => exact va_alen hC.1 hC.2.1 hT hS.1 a 4 hw rfl hv hd K
  | 5, _ => exact va_alen hC.1 hC.2.1 hT hS.1 a 5 hw rfl hv hd K
theorem w_iald {a n : Nat} {i : Int32} (hd : decode (mi_b μ) pc = .ok (.iaload, 1)) (hk : h.1[a]? = some (1, n)) (hin : vp_in i n) (kk : Wp G μ k (pc + 1) l (.int (gi h a i.toNatClampNeg) :: st) h) : Wp G μ k pc l (.int i :: .ref a :: st) h := by
  intro ad0 n0 ad p e s m args below meth c0 H ls locs hC hn0 hE hS hSS hL hl hst
  obtain ⟨r, hr, hw⟩ := pm_cell hS (pm_lt hk)
  rw [pm_en_a hk] at hw
  have K := kk ad0 n0 ad p e s m args below meth c0 H ls locs hC hn0 hE hS hSS hL hl (fun v hv => by
    rcases List.mem_cons.mp hv with z | z
    · rw [z]; trivial
    · exact pm_tl (pm_tl hst) v z)
  have e1 : pm_vm ad (.ref a) = .ref r := by simp [pm_vm, hr, va_rf]
  rw [List.map_cons, List.map_cons, e1]
  exact va_iald hC.1 hC.2.1 hC.2.2.2.2.2.2.2.2.1 hS.1 a 0 hw rfl hin hd K
theorem w_lald {a n : Nat} {i : Int32} (hd : decode (mi_b μ) pc = .ok (.laload, 1)) (hk : h.1[a]? = some (2, n)) (hin : vp_in i n) (kk : Wp G μ k (pc + 1) l (.long (gj h a i.toNatClampNeg) :: st) h) : Wp G μ k pc l (.int i :: .ref a :: st) h := by
  intro ad0 n0 ad p e s m args below meth c0 H ls locs hC hn0 hE hS hSS hL hl hst
  obtain ⟨r, hr, hw⟩ := pm_cell hS (pm_lt hk)
  rw [pm_en_a hk] at hw
  have K := kk ad0 n0 ad p e s m args below meth c0 H ls locs hC hn0 hE hS hSS hL hl (fun v hv => by
    rcases List.mem_cons.mp hv with z | z
    · rw [z]; trivial
    · exact pm_tl (pm_tl hst) v z)
  have e1 : pm_vm ad (.ref a) = .ref r := by simp [pm_vm, hr, va_rf]
  rw [List.map_cons, List.map_cons, e1]
  exact va_lald hC.1 hC.2.1 hC.2.2.2.2.2.2.2.2.1 hS.1 a 1 hw rfl hin hd K
theorem w_bald {a n : Nat} {i : Int32} (hd : decode (mi_b μ) pc = .ok (.baload, 1)) (hk : h.1[a]? = some (3, n)) (hin : vp_in i n) (kk : Wp G μ k (pc + 1) l (.int (gi h a i.toNatClampNeg) :: st) h) : Wp G μ k pc l (.int i :: .ref a :: st) h := by
  intro ad0 n0 ad p e s m args below meth c0 H ls locs hC hn0 hE hS hSS hL hl hst
  obtain ⟨r, hr, hw⟩ := pm_cell hS (pm_lt hk)
  rw [pm_en_a hk] at hw
  have K := kk ad0 n0 ad p e s m args below meth c0 H ls locs hC hn0 hE hS hSS hL hl (fun v hv => by
    rcases List.mem_cons.mp hv with z | z
    · rw [z]; trivial
    · exact pm_tl (pm_tl hst) v z)
  have e1 : pm_vm ad (.ref a) = .ref r := by simp [pm_vm, hr, va_rf]
  rw [List.map_cons, List.map_cons, e1]
  exact va_bald hC.1 hC.2.1 hC.2.2.2.2.2.2.2.2.1 hS.1 a 2 hw rfl hin hd K
theorem w_fald {a n : Nat} {i : Int32} (hd : decode (mi_b μ) pc = .ok (.faload, 1)) (hk : h.1[a]? = some (4, n)) (hin : vp_in i n) (kk : Wp G μ k (pc + 1) l (.float (gf h a i.toNatClampNeg) :: st) h) : Wp G μ k pc l (.int i :: .ref a :: st) h := by
  intro ad0 n0 ad p e s m args below meth c0 H ls locs hC hn0 hE hS hSS hL hl hst
  obtain ⟨r, hr, hw⟩ := pm_cell hS (pm_lt hk)
  rw [pm_en_a hk] at hw
  have K := kk ad0 n0 ad p e s m args below meth c0 H ls locs hC hn0 hE hS hSS hL hl (fun v hv => by
    rcases List.mem_cons.mp hv with z | z
    · rw [z]; trivial
    · exact pm_tl (pm_tl hst) v z)
  have e1 : pm_vm ad (.ref a) = .ref r := by simp [pm_vm, hr, va_rf]
  rw [List.map_cons, List.map_cons, e1]
  exact va_fald hC.1 hC.2.1 hC.2.2.2.2.2.2.2.2.1 hS.1 a 3 hw rfl hin hd K
theorem w_zald {a n : Nat} {i : Int32} (hd : decode (mi_b μ) pc = .ok (.baload, 1)) (hk : h.1[a]? = some (5, n)) (hin : vp_in i n) (kk : Wp G μ k (pc + 1) l (.int (gi h a i.toNatClampNeg) :: st) h) : Wp G μ k pc l (.int i :: .ref a :: st) h := by
  intro ad0 n0 ad p e s m args below meth c0 H ls locs hC hn0 hE hS hSS hL hl hst
  obtain ⟨r, hr, hw⟩ := pm_cell hS (pm_lt hk)
  rw [pm_en_a hk] at hw
  have K := kk ad0 n0 ad p e s m args below meth c0 H ls locs hC hn0 hE hS hSS hL hl (fun v hv => by
    rcases List.mem_cons.mp hv with z | z
    · rw [z]; trivial
    · exact pm_tl (pm_tl hst) v z)
  have e1 : pm_vm ad (.ref a) = .ref r := by simp [pm_vm, hr, va_rf]
  rw [List.map_cons, List.map_cons, e1]
  exact va_zald hC.1 hC.2.1 hC.2.2.2.2.2.2.2.2.1 hS.1 a 4 hw rfl hin hd K
theorem w_aald {a n : Nat} {i : Int32} (hd : decode (mi_b μ) pc = .ok (.aaload, 1)) (hk : h.1[a]? = some (6, n)) (hin : vp_in i n) (kk : Wp G μ k (pc + 1) l (.ref (gp h a i.toNatClampNeg) :: st) h) : Wp G μ k pc l (.int i :: .ref a :: st) h := by
  intro ad0 n0 ad p e s m args below meth c0 H ls locs hC hn0 hE hS hSS hL hl hst
  obtain ⟨r, hr, hw⟩ := pm_cell hS (pm_lt hk)
  rw [pm_en_a hk] at hw
  have K := kk ad0 n0 ad p e s m args below meth c0 H ls locs hC hn0 hE hS hSS hL hl (fun v hv => by
    rcases List.mem_cons.mp hv with z | z
    · rw [z]; exact hS.2.2.2 a _
    · exact pm_tl (pm_tl hst) v z)
  have e1 : pm_vm ad (.ref a) = .ref r := by simp [pm_vm, hr, va_rf]
  rw [List.map_cons, List.map_cons, e1]
  exact va_aldq hC.1 hC.2.1 hC.2.2.2.2.2.2.2.2.1 hS.1 a 5 hw rfl hin hd K
theorem w_iast {a n : Nat} {i : Int32} {x : Int32} (hd : decode (mi_b μ) pc = .ok (.iastore, 1)) (hk : h.1[a]? = some (1, n)) (hin : vp_in i n) (kk : Wp G μ k (pc + 1) l st (si h a i.toNatClampNeg x)) : Wp G μ k pc l (.int x :: .int i :: .ref a :: st) h := by
  intro ad0 n0 ad p e s m args below meth c0 H ls locs hC hn0 hE hS hSS hL hl hst
  obtain ⟨r, hr, hw⟩ := pm_cell hS (pm_lt hk)
  rw [pm_en_a hk] at hw
  have e1 : pm_vm ad (.ref a) = .ref r := by simp [pm_vm, hr, va_rf]
  have eqw : (pm_ws G ad h).set a ((ad a).getD 0, pm_en G ad (si h a i.toNatClampNeg x) a) = pm_ws G ad (si h a i.toNatClampNeg x) := pm_ws_set rfl rfl (fun b hb => pm_en_eq rfl (pm_u_ne _ _ _ hb) rfl rfl rfl)
  rw [pm_en_a (h := si h a i.toNatClampNeg x) hk, hr] at eqw
  simp only [si, sl, sf, gi, gj, gf, pm_u_at] at eqw
  rw [List.map_cons, List.map_cons, List.map_cons, e1]
  refine va_iast hC.1 hC.2.1 hC.2.2.2.2.2.2.2.2.1 hS.1 hS.2.1 hSS a 0 hw rfl hin hd (fun H1 locs1 q1 q2 q3 => ?_)
  have e2 := eqw
  exact kk ad0 n0 ad p e s m args below meth c0 H1 ls locs1 hC hn0 hE ⟨by rw [← e2]; exact q1, by rw [← e2]; exact q2, hS.2.2.1, hS.2.2.2⟩ q3 hL hl (pm_tl (pm_tl (pm_tl hst)))
theorem w_last {a n : Nat} {i : Int32} {x : Int64} (hd : decode (mi_b μ) pc = .ok (.lastore, 1)) (hk : h.1[a]? = some (2, n)) (hin : vp_in i n) (kk : Wp G μ k (pc + 1) l st (sl h a i.toNatClampNeg x)) : Wp G μ k pc l (.long x :: .int i :: .ref a :: st) h := by
  intro ad0 n0 ad p e s m args below meth c0 H ls locs hC hn0 hE hS hSS hL hl hst
  obtain ⟨r, hr, hw⟩ := pm_cell hS (pm_lt hk)
  rw [pm_en_a hk] at hw
  have e1 : pm_vm ad (.ref a) = .ref r := by simp [pm_vm, hr, va_rf]
  have eqw : (pm_ws G ad h).set a ((ad a).getD 0, pm_en G ad (sl h a i.toNatClampNeg x) a) = pm_ws G ad (sl h a i.toNatClampNeg x) := pm_ws_set rfl rfl (fun b hb => pm_en_eq rfl rfl (pm_u_ne _ _ _ hb) rfl rfl)
  rw [pm_en_a (h := sl h a i.toNatClampNeg x) hk, hr] at eqw
  simp only [si, sl, sf, gi, gj, gf, pm_u_at] at eqw
  rw [List.map_cons, List.map_cons, List.map_cons, e1]
  refine va_last hC.1 hC.2.1 hC.2.2.2.2.2.2.2.2.1 hS.1 hS.2.1 hSS a 1 hw rfl hin hd (fun H1 locs1 q1 q2 q3 => ?_)
  have e2 := eqw
  exact kk ad0 n0 ad p e s m args below meth c0 H1 ls locs1 hC hn0 hE ⟨by rw [← e2]; exact q1, by rw [← e2]; exact q2, hS.2.2.1, hS.2.2.2⟩ q3 hL hl (pm_tl (pm_tl (pm_tl hst)))
theorem w_bast {a n : Nat} {i : Int32} {x : Int32} (hd : decode (mi_b μ) pc = .ok (.bastore, 1)) (hk : h.1[a]? = some (3, n)) (hin : vp_in i n) (kk : Wp G μ k (pc + 1) l st (si h a i.toNatClampNeg (vp_nar .byte x))) : Wp G μ k pc l (.int x :: .int i :: .ref a :: st) h := by
  intro ad0 n0 ad p e s m args below meth c0 H ls locs hC hn0 hE hS hSS hL hl hst
  obtain ⟨r, hr, hw⟩ := pm_cell hS (pm_lt hk)
  rw [pm_en_a hk] at hw
  have e1 : pm_vm ad (.ref a) = .ref r := by simp [pm_vm, hr, va_rf]
  have eqw : (pm_ws G ad h).set a ((ad a).getD 0, pm_en G ad (si h a i.toNatClampNeg (vp_nar .byte x)) a) = pm_ws G ad (si h a i.toNatClampNeg (vp_nar .byte x)) := pm_ws_set rfl rfl (fun b hb => pm_en_eq rfl (pm_u_ne _ _ _ hb) rfl rfl rfl)
  rw [pm_en_a (h := si h a i.toNatClampNeg (vp_nar .byte x)) hk, hr] at eqw
  simp only [si, sl, sf, gi, gj, gf, pm_u_at] at eqw
  rw [List.map_cons, List.map_cons, List.map_cons, e1]
  refine va_bast hC.1 hC.2.1 hC.2.2.2.2.2.2.2.2.1 hS.1 hS.2.1 hSS a 2 hw rfl hin hd (fun H1 locs1 q1 q2 q3 => ?_)
  have e2 := eqw
  exact kk ad0 n0 ad p e s m args below meth c0 H1 ls locs1 hC hn0 hE ⟨by rw [← e2]; exact q1, by rw [← e2]; exact q2, hS.2.2.1, hS.2.2.2⟩ q3 hL hl (pm_tl (pm_tl (pm_tl hst)))
theorem w_fast {a n : Nat} {i : Int32} {x : UInt32} (hd : decode (mi_b μ) pc = .ok (.fastore, 1)) (hk : h.1[a]? = some (4, n)) (hin : vp_in i n) (kk : Wp G μ k (pc + 1) l st (sf h a i.toNatClampNeg x)) : Wp G μ k pc l (.float x :: .int i :: .ref a :: st) h := by
  intro ad0 n0 ad p e s m args below meth c0 H ls locs hC hn0 hE hS hSS hL hl hst
  obtain ⟨r, hr, hw⟩ := pm_cell hS (pm_lt hk)
  rw [pm_en_a hk] at hw
  have e1 : pm_vm ad (.ref a) = .ref r := by simp [pm_vm, hr, va_rf]
  have eqw : (pm_ws G ad h).set a ((ad a).getD 0, pm_en G ad (sf h a i.toNatClampNeg x) a) = pm_ws G ad (sf h a i.toNatClampNeg x) := pm_ws_set rfl rfl (fun b hb => pm_en_eq rfl rfl rfl (pm_u_ne _ _ _ hb) rfl)
  rw [pm_en_a (h := sf h a i.toNatClampNeg x) hk, hr] at eqw
  simp only [si, sl, sf, gi, gj, gf, pm_u_at] at eqw
  rw [List.map_cons, List.map_cons, List.map_cons, e1]
  refine va_fast hC.1 hC.2.1 hC.2.2.2.2.2.2.2.2.1 hS.1 hS.2.1 hSS a 3 hw rfl hin hd (fun H1 locs1 q1 q2 q3 => ?_)
  have e2 := eqw
  exact kk ad0 n0 ad p e s m args below meth c0 H1 ls locs1 hC hn0 hE ⟨by rw [← e2]; exact q1, by rw [← e2]; exact q2, hS.2.2.1, hS.2.2.2⟩ q3 hL hl (pm_tl (pm_tl (pm_tl hst)))
theorem w_zast {a n : Nat} {i : Int32} {x : Int32} (hd : decode (mi_b μ) pc = .ok (.bastore, 1)) (hk : h.1[a]? = some (5, n)) (hin : vp_in i n) (kk : Wp G μ k (pc + 1) l st (si h a i.toNatClampNeg (vp_nar .boolean x))) : Wp G μ k pc l (.int x :: .int i :: .ref a :: st) h := by
  intro ad0 n0 ad p e s m args below meth c0 H ls locs hC hn0 hE hS hSS hL hl hst
  obtain ⟨r, hr, hw⟩ := pm_cell hS (pm_lt hk)
  rw [pm_en_a hk] at hw
  have e1 : pm_vm ad (.ref a) = .ref r := by simp [pm_vm, hr, va_rf]
  have eqw : (pm_ws G ad h).set a ((ad a).getD 0, pm_en G ad (si h a i.toNatClampNeg (vp_nar .boolean x)) a) = pm_ws G ad (si h a i.toNatClampNeg (vp_nar .boolean x)) := pm_ws_set rfl rfl (fun b hb => pm_en_eq rfl (pm_u_ne _ _ _ hb) rfl rfl rfl)
  rw [pm_en_a (h := si h a i.toNatClampNeg (vp_nar .boolean x)) hk, hr] at eqw
  simp only [si, sl, sf, gi, gj, gf, pm_u_at] at eqw
  rw [List.map_cons, List.map_cons, List.map_cons, e1]
  refine va_zast hC.1 hC.2.1 hC.2.2.2.2.2.2.2.2.1 hS.1 hS.2.1 hSS a 4 hw rfl hin hd (fun H1 locs1 q1 q2 q3 => ?_)
  have e2 := eqw
  exact kk ad0 n0 ad p e s m args below meth c0 H1 ls locs1 hC hn0 hE ⟨by rw [← e2]; exact q1, by rw [← e2]; exact q2, hS.2.2.1, hS.2.2.2⟩ q3 hL hl (pm_tl (pm_tl (pm_tl hst)))
end PMA
