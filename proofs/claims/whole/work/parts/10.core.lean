/-! THE PLAIN MACHINE'S STATE: cells by number, typed memories; and what it says of the heap -/
abbrev pm_I : Type := MethodName × ByteArray × Nat × Option FieldType
/-- kinds of the cells, ints, longs, floats, references (by cells' numbers) -/
abbrev pm_H : Type := List (Nat × Nat) × (Nat → Nat → Int32) × (Nat → Nat → Int64) × (Nat → Nat → UInt32) × (Nat → Nat → Nat)
abbrev pm_AD : Type := Nat → Option Nat
/-- launch, classes and slots, first free address, array classes, addresses of constants, the script -/
abbrev pm_G : Type := Launch × va_G × Nat × (Nat → ClassId) × (Nat → Nat) × Nat × (Nat → Int32)
abbrev gl (G : pm_G) : Launch := G.1
abbrev gD (G : pm_G) : va_G := G.2.1
abbrev gB (G : pm_G) : Nat := G.2.2.1
abbrev gA (G : pm_G) : Nat → ClassId := G.2.2.2.1
abbrev gC (G : pm_G) : Nat → Nat := G.2.2.2.2.1
abbrev gN (G : pm_G) : Nat := G.2.2.2.2.2.1
abbrev gX (G : pm_G) : Nat → Int32 := G.2.2.2.2.2.2
def pm_u {α : Type} (f : Nat → Nat → α) (a k : Nat) (v : α) : Nat → Nat → α := fun b j => if b = a then (if j = k then v else f b j) else f b j
def pm_ui {α : Type} (f : Nat → α) (k : Nat) (v : α) : Nat → α := fun j => if j = k then v else f j
theorem pm_u_at {α : Type} (f : Nat → Nat → α) (a k : Nat) (v : α) : pm_u f a k v a = pm_ui (f a) k v := by
  funext j; simp [pm_u, pm_ui]
theorem pm_u_ne {α : Type} (f : Nat → Nat → α) {a b : Nat} (k : Nat) (v : α) (h : b ≠ a) : pm_u f a k v b = f b := by
  funext j; simp [pm_u, h]
abbrev si (h : pm_H) (a k : Nat) (v : Int32) : pm_H := (h.1, pm_u h.2.1 a k v, h.2.2)
abbrev sl (h : pm_H) (a k : Nat) (v : Int64) : pm_H := (h.1, h.2.1, pm_u h.2.2.1 a k v, h.2.2.2)
abbrev sf (h : pm_H) (a k : Nat) (v : UInt32) : pm_H := (h.1, h.2.1, h.2.2.1, pm_u h.2.2.2.1 a k v, h.2.2.2.2)
abbrev sp (h : pm_H) (a k : Nat) (v : Nat) : pm_H := (h.1, h.2.1, h.2.2.1, h.2.2.2.1, pm_u h.2.2.2.2 a k v)
abbrev gi (h : pm_H) : Nat → Nat → Int32 := h.2.1
abbrev gj (h : pm_H) : Nat → Nat → Int64 := h.2.2.1
abbrev gf (h : pm_H) : Nat → Nat → UInt32 := h.2.2.2.1
abbrev gp (h : pm_H) : Nat → Nat → Nat := h.2.2.2.2
def pm_vm (ad : pm_AD) (v : Value) : Value := match v with
  | .ref a => va_rf (ad a)
  | w => w
theorem pm_vm_int (ad : pm_AD) (x : Int32) : pm_vm ad (.int x) = .int x := rfl
theorem pm_vm_long (ad : pm_AD) (x : Int64) : pm_vm ad (.long x) = .long x := rfl
theorem pm_vm_float (ad : pm_AD) (x : UInt32) : pm_vm ad (.float x) = .float x := rfl
theorem pm_vm_cat (ad : pm_AD) (v : Value) : (pm_vm ad v).category = v.category := by
  cases v <;> simp [pm_vm, Value.category]
  next a => cases ad a <;> simp [va_rf, Value.category]
/-- fields' types by class: 0 int, 1 long, 2 reference, 3 boolean -/
def pm_ft : Nat → List Nat
  | 0 => List.replicate 16 2
  | 1 => [2, 0, 2]
  | 2 => [2, 2, 0, 0, 0, 3]
  | 3 => [2, 0]
  | 4 => [2, 2, 2, 2, 2, 2, 2, 2, 0]
  | 5 => [2, 2, 0, 3, 3]
  | 6 => [2]
  | 7 => [2, 0, 0, 0, 0, 2, 1, 0, 0]
  | 8 => [2, 2, 2, 0, 2, 2, 1]
  | 9 => [2, 2, 2, 0]
  | 10 => [2, 2, 2, 2, 2, 2, 2, 2, 2, 0, 0, 2, 0, 0, 2, 2, 2]
  | 11 => [0, 2, 0, 0, 2, 2, 2, 0, 0, 2, 2, 2, 0, 2, 2, 2, 2, 2, 0, 0, 2, 2, 2, 2, 1]
  | _ => []
def pm_fv (ad : pm_AD) (h : pm_H) (a c k : Nat) : Value := match c with
  | 1 => .long (gj h a k)
  | 2 => va_rf (ad (gp h a k))
  | _ => .int (gi h a k)
def pm_fs (ad : pm_AD) (h : pm_H) (a ci : Nat) : List Value := (pm_ft ci).mapIdx (fun k c => pm_fv ad h a c k)
def pm_en (G : pm_G) (ad : pm_AD) (h : pm_H) (a : Nat) : va_E := match h.1.getD a (9, 0) with
  | (0, ci) => .inr (ci, pm_fs ad h a ci)
  | (1, n) => .inl (gA G 0, n, .inl (gi h a))
  | (2, n) => .inl (gA G 1, n, .inr (.inl (gj h a)))
  | (3, n) => .inl (gA G 2, n, .inl (gi h a))
  | (4, n) => .inl (gA G 3, n, .inr (.inr (.inl (gf h a))))
  | (5, n) => .inl (gA G 4, n, .inl (gi h a))
  | (_, n) => .inl (gA G 5, n, .inr (.inr (.inr (.inr (fun j => ad (gp h a j))))))
def pm_ws (G : pm_G) (ad : pm_AD) (h : pm_H) : va_W := (List.range h.1.length).map (fun a => ((ad a).getD 0, pm_en G ad h a))
theorem pm_ws_at {G : pm_G} {ad : pm_AD} {h : pm_H} {a : Nat} (ha : a < h.1.length) : (pm_ws G ad h)[a]? = some ((ad a).getD 0, pm_en G ad h a) := by
  simp [pm_ws, List.getElem?_map, List.getElem?_range ha]
theorem pm_ws_len (G : pm_G) (ad : pm_AD) (h : pm_H) : (pm_ws G ad h).length = h.1.length := by simp [pm_ws]
theorem pm_ws_set {G : pm_G} {ad : pm_AD} {h h' : pm_H} {a : Nat} {e : va_E} (hk : h'.1 = h.1) (he : pm_en G ad h' a = e) (ho : ∀ b, b ≠ a → pm_en G ad h' b = pm_en G ad h b) : (pm_ws G ad h).set a ((ad a).getD 0, e) = pm_ws G ad h' := by
  apply List.ext_getElem?
  intro k
  by_cases hlt : k < h.1.length
  · by_cases hka : k = a
    · subst hka
      rw [List.getElem?_set_self (by rw [pm_ws_len]; exact hlt), pm_ws_at (by rw [hk]; exact hlt), he]
    · rw [List.getElem?_set_ne (Ne.symm hka), pm_ws_at hlt, pm_ws_at (by rw [hk]; exact hlt), ho k hka]
  · rw [List.getElem?_eq_none (by rw [List.length_set, pm_ws_len]; omega), List.getElem?_eq_none (by rw [pm_ws_len, hk]; omega)]
abbrev pm_tys (G : pm_G) : List (ClassId × FieldType) := [(gA G 0, .int), (gA G 1, .long), (gA G 2, .byte), (gA G 3, .float), (gA G 4, .boolean), (gA G 5, .object "RaisedQueue$Forest")]
def pm_A (G : pm_G) : Nat → Prop := fun q => gB G ≤ q
/-- the words of the language, as the enum's constants hold them: name, letters, may be a NAME, kind, fact -/
def pm_wd : List (String × Int64 × Int32 × Int32 × Int32) := [("OTHER", 0, 1, -1, 0), ("HEAP", 267312, 0, -1, 0), ("SHELF", 20190598, 0, -1, 0), ("ITEM", 315565, 0, -1, 0), ("OVER", 514226, 0, -1, 0), ("IN", 302, 0, -1, 0), ("SHARE", 20186693, 0, -1, -4), ("GROWS", 7945971, 0, -1, 0), ("PUT", 17076, 0, -1, 0), ("TAKE", 656741, 0, -1, 0), ("MELD", 431492, 0, -1, 0), ("SHELVE", 646099653, 0, -1, 0), ("PLAIN", 17171758, 0, 0, 0), ("URGENT", 723752404, 0, 1, 0), ("LATE", 394885, 0, 2, 0), ("ODD", 15492, 0, 3, 0), ("NOT", 14836, 0, -1, 0), ("AND", 1476, 0, -1, 0), ("OR", 498, 0, -1, 0), ("RANK", 591307, 1, -1, -2), ("TARGET", 672734388, 1, -1, -3), ("ALL", 1420, 1, -1, -5)]
/-- constants: the enum's, its row of them, the script, what throwing needs -/
def pm_Cs (G : pm_G) (U : State) (H : Heap) : Prop :=
  (∀ (i : Nat) (w : String × Int64 × Int32 × Int32 × Int32), pm_wd[i]? = some w → va_Z "RaisedQueue$Word" w.1 "LRaisedQueue$Word;" (.ref (gC G i)) (pm_A G) U H ∧ va_O "RaisedQueue$Word" (gC G i) (pm_A G) U H ∧ va_OF "RaisedQueue$Word" "letters" "J" (.long w.2.1) (gC G i) (pm_A G) U H ∧ va_OF "RaisedQueue$Word" "free" "Z" (.int w.2.2.1) (gC G i) (pm_A G) U H ∧ va_OF "RaisedQueue$Word" "kind" "I" (.int w.2.2.2.1) (gC G i) (pm_A G) U H ∧ va_OF "RaisedQueue$Word" "fact" "I" (.int w.2.2.2.2) (gC G i) (pm_A G) U H) ∧
  (∀ i j, i < 22 → j < 22 → gC G i = gC G j → i = j) ∧
  va_Z "RaisedQueue$Word" "WORDS" "[LRaisedQueue$Word;" (.ref (gC G 100)) (pm_A G) U H ∧ va_T (.object "RaisedQueue$Word") (gC G 100) 22 (fun j => .ref (gC G j)) (pm_A G) U H ∧
  va_X (gC G 200) (gN G) (gX G) U H ∧ ¬ pm_A G (gC G 200) ∧
  vx_Zq Bundle.tN "UNASSIGNED_STACK" Bundle.steD (pm_A G) U H ∧ vx_Zq Bundle.tN "SUPPRESSED_SENTINEL" Bundle.listD (pm_A G) U H ∧
  (∃ sa, vk_R "RaisedQueue" 248 "no such place in a heap" sa U) ∧ (∃ sa, vk_R "RaisedQueue" 256 "no such item in a heap" sa U) ∧ (gl G).stackTraces = false
theorem pm_Cs.moved {G : pm_G} {u U : State} {H : Heap} (hvm : u.vm.Alike U.vm) (hR : ∀ (own : String) (k : Nat) (tx : String) (sa : Nat), vk_R own k tx sa u → vk_R own k tx sa U) (h : pm_Cs G u H) : pm_Cs G U H := by
  obtain ⟨h1, h2, h3, h4, h5, h6, h7, h8, h9, h10, h11⟩ := h
  refine ⟨fun i w hw => ?_, h2, h3.moved hvm, h4.moved hvm, h5.moved hvm, h6, h7.moved hvm, h8.moved hvm, ?_, ?_, h11⟩
  · obtain ⟨a1, a2, a3, a4, a5, a6⟩ := h1 i w hw
    exact ⟨a1.moved hvm, a2.moved hvm, a3.moved hvm, a4.moved hvm, a5.moved hvm, a6.moved hvm⟩
  · obtain ⟨sa, q⟩ := h9
    exact ⟨sa, hR _ _ _ _ q⟩
  · obtain ⟨sa, q⟩ := h10
    exact ⟨sa, hR _ _ _ _ q⟩
theorem pm_Cs.kept {G : pm_G} {U : State} {H H1 : Heap} (h : pm_Cs G U H) (hq : ∀ a : Nat, a < H.size → ¬ pm_A G a → H1[a]? = H[a]?) : pm_Cs G U H1 := by
  obtain ⟨h1, h2, h3, h4, h5, h6, h7, h8, h9, h10, h11⟩ := h
  refine ⟨fun i w hw => ?_, h2, h3.kept hq, h4.kept hq, h5.kept ?_, h6, h7.kept hq, h8.kept hq, h9, h10, h11⟩
  · obtain ⟨a1, a2, a3, a4, a5, a6⟩ := h1 i w hw
    exact ⟨a1.kept hq, a2.kept hq, a3.kept hq, a4.kept hq, a5.kept hq, a6.kept hq⟩
  · obtain ⟨scr, hb, -⟩ := h5
    exact hq _ (Array.getElem?_eq_some_iff.mp hb).1 h6
/-- a value's references are cells that stand, or constants -/
def pm_ok (n : Nat) (v : Value) : Prop := match v with
  | .ref a => a < n ∨ 1000 ≤ a
  | _ => True
theorem pm_ok.le {n n' : Nat} {v : Value} (h : pm_ok n v) (hn : n ≤ n') : pm_ok n' v := by
  cases v with
  | ref a => exact h.elim (fun q => Or.inl (Nat.lt_of_lt_of_le q hn)) Or.inr
  | _ => trivial
/-- cells' numbers above the world's own mean constants -/
def pm_ad (G : pm_G) (n : Nat) (ad : pm_AD) : Prop := (∀ a, a < n → ad a ≠ none) ∧ (∀ k, ad (1000 + k) = if k < 201 then some (gC G k) else none) ∧ n ≤ 1000
/-- what the plain state says of the heap -/
def pm_S (G : pm_G) (ad : pm_AD) (h : pm_H) (H : Heap) : Prop :=
  va_P (gD G) vwCl (pm_ws G ad h) H ∧ va_D (pm_A G) (pm_ws G ad h) ∧ pm_ad G h.1.length ad ∧ (∀ a k, pm_ok h.1.length (.ref (gp h a k)))
def gw : List Cond := lw_tbl.filter goodWord
def pm_isN : Cond → Bool
  | .fieldLinkNest .. => true
  | .methodLinkNest .. => true
  | _ => false
def gn : List Cond := lw_tbl.filter pm_isN
theorem pm_N_warm {w : Cond} {s U : State} (hw : w ∈ gn) (hW : s.WarmedH U.vm) (h : va_Nw w s) : va_Nw w U := by
  have h2 : pm_isN w = true := (List.mem_filter.mp hw).2
  cases w with
  | fieldLinkNest a i b n d h => exact va_Nw.warmF hW (by assumption)
  | methodLinkNest a i x h => exact va_Nw.warmM hW (by assumption)
  | _ => cases h2
theorem pm_N_same {w : Cond} {s U : State} (hw : w ∈ gn) (hv : U.vm = s.vm) (h : va_Nw w s) : va_Nw w U := by
  have h2 : pm_isN w = true := (List.mem_filter.mp hw).2
  cases w with
  | fieldLinkNest a i b n d h => exact va_tabs rfl hv.symm (by assumption)
  | methodLinkNest a i x h => exact va_tabs rfl hv.symm (by assumption)
  | _ => cases h2
/-- what stays -/
def pm_T (G : pm_G) (U : State) (H : Heap) : Prop := va_K (gD G) vwCl (pm_tys G) U ∧ pm_Cs G U H ∧ gB G ≤ H.size ∧ (∀ w ∈ gn, va_Nw w U) ∧ va_AO "RaisedQueue$Forest" U
theorem pm_T.warm {G : pm_G} {s U : State} {H : Heap} (hW : s.WarmedH U.vm) (h : pm_T G s H) : pm_T G U H := ⟨va_K.moved hW.alike h.1, h.2.1.moved hW.alike (fun _ _ _ _ q => q.warm hW), h.2.2.1, fun w hw => pm_N_warm hw hW (h.2.2.2.1 w hw), va_AO.moved hW.alike h.2.2.2.2⟩
theorem pm_T.same {G : pm_G} {u U : State} {H : Heap} (hv : U.vm = u.vm) (h : pm_T G u H) : pm_T G U H := by
  have ha : u.vm.Alike U.vm := by rw [hv]; exact Vm.Alike.refl u.vm
  exact ⟨va_K.moved ha h.1, h.2.1.moved ha (fun _ _ _ _ q => q.same hv), h.2.2.1, fun w hw => pm_N_same hw hv (h.2.2.2.1 w hw), va_AO.moved ha h.2.2.2.2⟩
theorem pm_T.kept {G : pm_G} {U : State} {H H1 : Heap} (h : pm_T G U H) (hs : H.size ≤ H1.size) (hq : ∀ a : Nat, a < H.size → ¬ pm_A G a → H1[a]? = H[a]?) : pm_T G U H1 := ⟨h.1, h.2.1.kept hq, Nat.le_trans h.2.2.1 hs, h.2.2.2⟩
