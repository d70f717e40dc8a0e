/-! RETURNS, REFERENCES COMPARED, FIELDS -/
section PMT
variable {G : pm_G} {μ : pm_M} {k : Nat × Nat} {pc : Nat} {l st : List Value} {h : pm_H}
theorem w_ireturn {x : Int32} {ty : FieldType} (hd : decode (mi_b μ) pc = .ok (.ireturn, 1)) (hr : μ.1.2.2.2 = some ty) (hn : narrow ty (.int x) = .int x) (hk : k.1 ≤ μ.2.2.1 ∧ k.2 ≤ μ.2.2.2.1) (hp : μ.2.2.2.2 (some (.int x)) h) : Wp G μ k pc l [.int x] h := by
  intro ad0 n0 ad p e s m args below meth c H ls locs hC hn0 hE hS hSS hL hl hst
  exact W.widen hk.1 hk.2 (W.zret hC.1 hC.2.1 (hC.2.2.2.2.2.1.trans hr) hn (fun t ht hW => ⟨⟨some (.int x), ad, h, rfl, hp, hn0, hE, (fun w hw => by cases hw; trivial), by rw [ht]; exact hS⟩, hSS.F ht⟩) hSS.2.2 hd hC.2.2.2.2.2.2.1)
theorem w_lreturn {x : Int64} (hd : decode (mi_b μ) pc = .ok (.lreturn, 1)) (hr : μ.1.2.2.2 = some .long) (hk : k.1 ≤ μ.2.2.1 ∧ k.2 ≤ μ.2.2.2.1) (hp : μ.2.2.2.2 (some (.long x)) h) : Wp G μ k pc l [.long x] h := by
  intro ad0 n0 ad p e s m args below meth c H ls locs hC hn0 hE hS hSS hL hl hst
  exact W.widen hk.1 hk.2 (W.lret hC.1 hC.2.1 (hC.2.2.2.2.2.1.trans hr) (fun t ht hW => ⟨⟨some (.long x), ad, h, rfl, hp, hn0, hE, (fun w hw => by cases hw; trivial), by rw [ht]; exact hS⟩, hSS.F ht⟩) hSS.2.2 hd hC.2.2.2.2.2.2.1)
theorem w_freturn {x : UInt32} (hd : decode (mi_b μ) pc = .ok (.freturn, 1)) (hr : μ.1.2.2.2 = some .float) (hk : k.1 ≤ μ.2.2.1 ∧ k.2 ≤ μ.2.2.2.1) (hp : μ.2.2.2.2 (some (.float x)) h) : Wp G μ k pc l [.float x] h := by
  intro ad0 n0 ad p e s m args below meth c H ls locs hC hn0 hE hS hSS hL hl hst
  exact W.widen hk.1 hk.2 (W.fret hC.1 hC.2.1 (hC.2.2.2.2.2.1.trans hr) (fun t ht hW => ⟨⟨some (.float x), ad, h, rfl, hp, hn0, hE, (fun w hw => by cases hw; trivial), by rw [ht]; exact hS⟩, hSS.F ht⟩) hSS.2.2 hd hC.2.2.2.2.2.2.1)
theorem w_return (hd : decode (mi_b μ) pc = .ok (.return_, 1)) (hr : μ.1.2.2.2 = none) (hk : k.1 ≤ μ.2.2.1 ∧ k.2 ≤ μ.2.2.2.1) (hp : μ.2.2.2.2 none h) : Wp G μ k pc l [] h := by
  intro ad0 n0 ad p e s m args below meth c H ls locs hC hn0 hE hS hSS hL hl hst
  exact W.widen hk.1 hk.2 (W.vret hC.1 hC.2.1 (hC.2.2.2.2.2.1.trans hr) (fun t ht hW => ⟨⟨none, ad, h, rfl, hp, hn0, hE, (fun w hw => by cases hw), by rw [ht]; exact hS⟩, hSS.F ht⟩) hSS.2.2 hd hC.2.2.2.2.2.2.1)
theorem w_areturn {a : Nat} {C : String} (hd : decode (mi_b μ) pc = .ok (.areturn, 1)) (hr : μ.1.2.2.2 = some (.object C)) (hk : k.1 ≤ μ.2.2.1 ∧ k.2 ≤ μ.2.2.2.1) (hp : μ.2.2.2.2 (some (.ref a)) h) : Wp G μ k pc l [.ref a] h := by
  intro ad0 n0 ad p e s m args below meth c H ls locs hC hn0 hE hS hSS hL hl hst
  exact W.widen hk.1 hk.2 (W.aret hC.1 hC.2.1 (hC.2.2.2.2.2.1.trans hr) (Or.inl ⟨C, rfl⟩) (by
    show va_rf (ad a) = .null ∨ ∃ z, va_rf (ad a) = .ref z
    cases ad a with
    | none => exact Or.inl rfl
    | some q => exact Or.inr ⟨q, rfl⟩) (fun t ht hW => ⟨⟨some (.ref a), ad, h, rfl, hp, hn0, hE, (fun w hw => by cases hw; exact hst _ List.mem_cons_self), by rw [ht]; exact hS⟩, hSS.F ht⟩) hSS.2.2 hd hC.2.2.2.2.2.2.1)
/-- two words of the language compared -/
theorem w_acmp_ne {i j : Nat} {off : Int} {tgt : Nat} (hd : decode (mi_b μ) pc = .ok (.if_acmp .ne off, 3)) (ht : (pc : Int) + off = (tgt : Int)) (hi : i < 22) (hj : j < 22) (kt : ¬ i = j → Wp G μ k tgt l st h) (kf : i = j → Wp G μ k (pc + 3) l st h) : Wp G μ k pc l (.ref (1000 + j) :: .ref (1000 + i) :: st) h :=
  pm_2 (C := ¬ i = j) (D := i = j) (fun n h w hw => h w (by simp [hw])) (fun {_ _ _ _ _ _ _ _ _ _ _ _ _ _ _ ad n} C X _ K1 K2 => by
    have ei : ad (1000 + i) = some (gC G i) := by rw [X.2.1 i, if_pos (by omega)]
    have ej : ad (1000 + j) = some (gC G j) := by rw [X.2.1 j, if_pos (by omega)]
    have inj := C.2.2.2.2.2.2.2.2.2.1.2.1
    simp only [List.map_cons, pm_vm, ei, ej]
    exact lv_acmp_ne (rx := some (gC G i)) (ry := some (gC G j)) C.1 C.2.1 hd ht (fun q => K1 fun z => q (by rw [z])) (fun q => K2 (inj i j hi hj (Option.some.inj q)))) kt kf
theorem w_ifnonnull {a : Nat} {off : Int} {tgt : Nat} (hd : decode (mi_b μ) pc = .ok (.ifnonnull off, 3)) (ht : (pc : Int) + off = (tgt : Int)) (ha : a < h.1.length) (kk : Wp G μ k tgt l st h) : Wp G μ k pc l (.ref a :: st) h := by
  intro ad0 n0 ad p e s m args below meth c H ls locs hC hn0 hE hS hSS hL hl hst
  have h1 := hS.2.2.1.1 a ha
  simp only [List.map_cons, pm_vm]
  cases hz : ad a with
  | none => exact absurd hz h1
  | some q => exact lv_ifnonnull hC.1 hC.2.1 hd ht (kk ad0 n0 ad p e s m args below meth c H ls locs hC hn0 hE hS hSS hL hl (pm_tl hst))
end PMT
/-- the pool's entry is the q-th field of class ci -/
def pm_lk (own : String) (idx ci q : Nat) : Prop := ∃ (C : String) (T : u_T) (N : Nat), vwCl[ci]? = some (C, T, N) ∧ q < N ∧ (Cond.fieldLink own idx (T q).1 (T q).2.1 (T q).2.2.1 ∈ gw ∨ ∃ host, Cond.fieldLinkNest own idx (T q).1 (T q).2.1 (T q).2.2.1 host ∈ gn)
def pm_lk0 (own : String) (idx ci q : Nat) : Prop := ∃ (C : String) (T : u_T) (N : Nat), vwCl[ci]? = some (C, T, N) ∧ q < N ∧ Cond.fieldLink own idx (T q).1 (T q).2.1 (T q).2.2.1 ∈ gw
theorem pm_lk0.lk {own : String} {idx ci q : Nat} (h : pm_lk0 own idx ci q) : pm_lk own idx ci q := by
  obtain ⟨C, T, N, h1, h2, h3⟩ := h
  exact ⟨C, T, N, h1, h2, Or.inl h3⟩
def pm_tc : FieldType → Nat
  | .int => 0
  | .long => 1
  | .boolean => 3
  | .object _ => 2
  | .array _ => 2
  | _ => 9
def pm_cls (ci : Nat) (C : String) (T : u_T) (N : Nat) (ty : Nat → FieldType) : Prop := vwCl[ci]? = some (C, T, N) ∧ (∀ w ∈ u_ws C T N, w ∈ gw) ∧ (∀ k, k < N → parseFieldDescriptor (T k).2.2.1 = some (ty k)) ∧ (∀ a, a < N → ∀ b, b < N → a ≠ b → (T a).2.1 ≠ (T b).2.1) ∧ (pm_ft ci).length = N ∧ (∀ k, k < N → (pm_ft ci)[k]? = some (pm_tc (ty k))) ∧ (∀ k, k < N → (T k).1 = C)
theorem pm_c0 : pm_cls 0 RX0 TX0 16 tyX0 := ⟨rfl, by decide +kernel, tyX0_ok, nmX0, rfl, by decide +kernel, by decide +kernel⟩
theorem pm_c1 : pm_cls 1 RX1 TX1 3 tyX1 := ⟨rfl, by decide +kernel, tyX1_ok, nmX1, rfl, by decide +kernel, by decide +kernel⟩
theorem pm_c2 : pm_cls 2 RX2 TX2 6 tyX2 := ⟨rfl, by decide +kernel, tyX2_ok, nmX2, rfl, by decide +kernel, by decide +kernel⟩
theorem pm_c3 : pm_cls 3 RX3 TX3 2 tyX3 := ⟨rfl, by decide +kernel, tyX3_ok, nmX3, rfl, by decide +kernel, by decide +kernel⟩
theorem pm_c4 : pm_cls 4 RX4 TX4 9 tyX4 := ⟨rfl, by decide +kernel, tyX4_ok, nmX4, rfl, by decide +kernel, by decide +kernel⟩
theorem pm_c5 : pm_cls 5 RX5 TX5 5 tyX5 := ⟨rfl, by decide +kernel, tyX5_ok, nmX5, rfl, by decide +kernel, by decide +kernel⟩
theorem pm_c6 : pm_cls 6 RX6 TX6 1 tyX6 := ⟨rfl, by decide +kernel, tyX6_ok, nmX6, rfl, by decide +kernel, by decide +kernel⟩
theorem pm_c7 : pm_cls 7 RX7 TX7 9 tyX7 := ⟨rfl, by decide +kernel, tyX7_ok, nmX7, rfl, by decide +kernel, by decide +kernel⟩
theorem pm_c8 : pm_cls 8 RX8 TX8 7 tyX8 := ⟨rfl, by decide +kernel, tyX8_ok, nmX8, rfl, by decide +kernel, by decide +kernel⟩
theorem pm_c9 : pm_cls 9 RX10 TX10 4 tyX10 := ⟨rfl, by decide +kernel, tyX10_ok, nmX10, rfl, by decide +kernel, by decide +kernel⟩
theorem pm_c10 : pm_cls 10 RX11 TX11 17 tyX11 := ⟨rfl, by decide +kernel, tyX11_ok, nmX11, rfl, by decide +kernel, by decide +kernel⟩
theorem pm_c11 : pm_cls 11 RX12 TX12 25 tyX12 := ⟨rfl, by decide +kernel, tyX12_ok, nmX12, rfl, by decide +kernel, by decide +kernel⟩
theorem pm_call {ci : Nat} {C : String} {T : u_T} {N : Nat} (h : vwCl[ci]? = some (C, T, N)) : ∃ ty, pm_cls ci C T N ty := by
  match ci, h with
  | 0, h => cases h; exact ⟨_, pm_c0⟩
  | 1, h => cases h; exact ⟨_, pm_c1⟩
  | 2, h => cases h; exact ⟨_, pm_c2⟩
  | 3, h => cases h; exact ⟨_, pm_c3⟩
  | 4, h => cases h; exact ⟨_, pm_c4⟩
  | 5, h => cases h; exact ⟨_, pm_c5⟩
  | 6, h => cases h; exact ⟨_, pm_c6⟩
  | 7, h => cases h; exact ⟨_, pm_c7⟩
  | 8, h => cases h; exact ⟨_, pm_c8⟩
  | 9, h => cases h; exact ⟨_, pm_c9⟩
  | 10, h => cases h; exact ⟨_, pm_c10⟩
  | 11, h => cases h; exact ⟨_, pm_c11⟩
  | n + 12, h => simp [vwCl] at h
