/-! WHAT A METHOD'S CODE COMES TO, over the plain state; a row an instruction -/
abbrev pm_PT : Type := Option Value → pm_H → Prop
/-- the method, its depth, its cells and slots, what is to hold behind it -/
abbrev pm_M : Type := pm_I × Nat × Nat × Nat × pm_PT
abbrev mi_b (μ : pm_M) : ByteArray := μ.1.2.1
abbrev mi_o (μ : pm_M) : String := μ.1.1.cls
def pm_wsO (mi : pm_I) : List Cond := .code mi.1 mi.2.1 mi.2.2.1 mi.2.2.2 :: gw
def pm_rm (d mc ms : Nat) : Room := { frames := d, cells := mc, slots := ms, locals := 64 * d }
def pm_Ext (n n' : Nat) (ad ad' : pm_AD) : Prop := ∀ a, ¬ (n ≤ a ∧ a < n') → ad' a = ad a
def pm_Q (G : pm_G) (ad : pm_AD) (n : Nat) (post : pm_PT) : Array Value → State → Outcome → State → Prop := fun _ st oc t =>
  (∃ (v : Option Value) (ad' : pm_AD) (h' : pm_H), oc = .returned (v.map (pm_vm ad')) ∧ post v h' ∧ n ≤ h'.1.length ∧ pm_Ext n h'.1.length ad ad' ∧ (∀ w, v = some w → pm_ok h'.1.length w) ∧ pm_S G ad' h' t.heap) ∧ va_F (pm_A G) st t
def pm_Cx (G : pm_G) (mi : pm_I) (p : Program) (s : State) (m : MethodId) (args : Array Value) (meth : Method) (c : Code) : Prop :=
  p.tables.exec = Jvm.exec ∧ c.code = mi.2.1 ∧ c.maxLocals = mi.2.2.1 ∧ s.vm.findClass mi.1.cls = some m.cls ∧ (∀ w ∈ gw, w.before args s = true) ∧ meth.sig.returnType = mi.2.2.2 ∧ meth.locks = false ∧ meth.name = mi.1.name ∧ pm_T G s s.heap
def pm_L (ad : pm_AD) (ls : Array Slot) (n : Nat) (l : List Value) : Prop := ls.size = n ∧ lv_wf ls ∧ l.length = n ∧ ∀ (i : Nat) (v : Value), l[i]? = some v → v ≠ .null → ls[i]? = some (.val (pm_vm ad v))
def Wp (G : pm_G) (μ : pm_M) (k : Nat × Nat) (pc : Nat) (l st : List Value) (h : pm_H) : Prop :=
  ∀ (ad0 : pm_AD) (n0 : Nat) (ad : pm_AD) (p : Program) (e : Env) (s : State) (m : MethodId) (args : Array Value) (below : List Frame) (meth : Method) (c : Code) (H : Heap) (ls : Array Slot) (locs : List Loc),
    pm_Cx G μ.1 p s m args meth c → n0 ≤ h.1.length → pm_Ext n0 h.1.length ad0 ad → pm_S G ad h H → va_S (pm_A G) s.heap H locs → pm_L ad ls μ.1.2.2.1 l → (∀ v ∈ l, pm_ok h.1.length v) → (∀ v ∈ st, pm_ok h.1.length v) →
    W p (gl G) e (pm_rm μ.2.1 μ.2.2.1 μ.2.2.2.1) s m args below meth c H locs k.1 k.2 (MQ below (pm_Q G ad0 n0 μ.2.2.2.2) args s μ.2.2.1 μ.2.2.2.1 (pm_A G)) (F0 m pc ls (st.map (pm_vm ad)))
/-- a method's contract, said over the plain state -/
def Ct (G : pm_G) (d : Nat) (mi : pm_I) (mc ms : Nat) (av : List Value) (h : pm_H) (post : pm_PT) : Prop :=
  (∀ v ∈ av, pm_ok h.1.length v) → ∀ (ad : pm_AD), Met (gl G) mi.1 (pm_wsO mi) (pm_rm d mc ms) (va_Pc (av.map (pm_vm ad)) (fun U => pm_S G ad h U.heap ∧ pm_T G U U.heap)) (pm_Q G ad h.1.length post) mc ms (pm_A G)
/-- locals at the entry -/
def pm_ent : List Value → List Value
  | [] => []
  | v :: r => match v with
    | .long x => .long x :: .null :: pm_ent r
    | .double x => .double x :: .null :: pm_ent r
    | w => w :: pm_ent r
def pm_ent0 (av : List Value) (n : Nat) : List Value := pm_ent av ++ List.replicate (n - (pm_ent av).length) .null
theorem pm_sl_cons (v : Value) (r : List Value) : lg_sl (v :: r) = (if v.category = 2 then [.val v, .second] else [.val v]) ++ lg_sl r := by simp [lg_sl]
theorem pm_ent_cons (v : Value) (r : List Value) : pm_ent (v :: r) = (if v.category = 2 then [v, .null] else [v]) ++ pm_ent r := by
  cases v <;> rfl
theorem pm_ent_len (ad : pm_AD) (av : List Value) : (lg_sl (av.map (pm_vm ad))).length = (pm_ent av).length := by
  induction av with
  | nil => rfl
  | cons v r ih =>
    rw [List.map_cons, pm_sl_cons, pm_ent_cons, List.length_append, List.length_append, ih, pm_vm_cat]
    split <;> rfl
theorem pm_ent_at (ad : pm_AD) (av : List Value) : ∀ (k i : Nat) (v : Value), (pm_ent av)[i]? = some v → v ≠ .null → (k + i, pm_vm ad v) ∈ lv_args k (av.map (pm_vm ad)) := by
  induction av with
  | nil => intro k i v h; simp [pm_ent] at h
  | cons w r ih =>
    intro k i v h hv
    rw [pm_ent_cons] at h
    rw [List.map_cons, lv_args, pm_vm_cat]
    split at h
    next hc =>
      rw [if_pos hc]
      match i, h with
      | 0, h => simp at h; subst h; exact List.mem_cons_self
      | 1, h => simp at h; exact absurd h.symm hv
      | i + 2, h =>
        have h2 : (pm_ent r)[i]? = some v := by simpa using h
        have := ih (k + 2) i v h2 hv
        rw [show k + (i + 2) = k + 2 + i by omega]
        exact List.mem_cons_of_mem _ this
    next hc =>
      rw [if_neg hc]
      match i, h with
      | 0, h => simp at h; subst h; exact List.mem_cons_self
      | i + 1, h =>
        have h2 : (pm_ent r)[i]? = some v := by simpa using h
        have := ih (k + 1) i v h2 hv
        rw [show k + (i + 1) = k + 1 + i by omega]
        exact List.mem_cons_of_mem _ this
theorem pm_ent_L (ad : pm_AD) (av : List Value) {n : Nat} (hn : (pm_ent av).length ≤ n) : pm_L ad ((lg_sl (av.map (pm_vm ad)) ++ List.replicate (n - (lg_sl (av.map (pm_vm ad))).length) Slot.unset).toArray) n (pm_ent0 av n) := by
  have h := lv_entry (av.map (pm_vm ad)) (n := n) (by rw [pm_ent_len]; exact hn)
  refine ⟨h.1, h.2.1, by simp [pm_ent0]; omega, fun i v hi hv => ?_⟩
  have hi2 : (pm_ent av)[i]? = some v := by
    rw [pm_ent0] at hi
    by_cases hl : i < (pm_ent av).length
    · rwa [List.getElem?_append_left hl] at hi
    · rw [List.getElem?_append_right (by omega)] at hi
      exact absurd (List.eq_of_mem_replicate (List.mem_of_getElem? hi)) hv
  have := pm_ent_at ad av 0 i v hi2 hv
  rw [Nat.zero_add] at this
  exact h.2.2 _ this
theorem pm_ent_ok {n m : Nat} {av : List Value} (h : ∀ v ∈ av, pm_ok n v) : ∀ v ∈ pm_ent0 av m, pm_ok n v := by
  have h1 : ∀ v ∈ pm_ent av, pm_ok n v := by
    induction av with
    | nil => intro v hv; cases hv
    | cons w r ih =>
      intro v hv
      rw [pm_ent_cons] at hv
      rcases List.mem_append.mp hv with q | q
      · split at q <;> simp at q
        · rcases q with q | q
          · subst q; exact h _ List.mem_cons_self
          · subst q; trivial
        · subst q; exact h _ List.mem_cons_self
      · exact ih (fun v hv => h v (List.mem_cons_of_mem _ hv)) v q
  intro v hv
  rcases List.mem_append.mp hv with q | q
  · exact h1 v q
  · rw [List.eq_of_mem_replicate q]; trivial
/-- a contract out of a walk -/
theorem ct_of {G : pm_G} {d : Nat} {mi : pm_I} {mc ms : Nat} {av : List Value} {h : pm_H} {post : pm_PT} (hy : plainName mi.1.cls = true) (hn : (pm_ent av).length ≤ mi.2.2.1) (w : Wp G (mi, d, mc, ms, post) (0, 0) 0 (pm_ent0 av mi.2.2.1) [] h) : Ct G d mi mc ms av h post := by
  intro hok ad
  refine Met.ofW (cc := mi.2.1) (maxL := mi.2.2.1) (ret := mi.2.2.2) hy rfl ?_
  intro p e s m args below meth c s₁ B hml hv
  obtain ⟨rfl, hS, hT⟩ := hv
  have hts := atoms_spec (ws := pm_wsO mi) B.pre
  have hown : s.vm.findClass mi.1.cls = some m.cls := findClass_of_methodNamed B.named
  rw [lg_entry_eq]
  exact w ad h.1.length ad p e s m _ below meth c s.heap _ [] ⟨B.exec, B.bytes, hml, hown, fun w hw => hts w (List.mem_cons_of_mem _ hw), B.returns, B.notSynchronized, (name_of_methodNamed B.named B.method).1, hT⟩ (Nat.le_refl _) (fun _ _ => rfl) hS va_S.rf (pm_ent_L ad av hn) (pm_ent_ok hok) (fun v hv => by cases hv)
