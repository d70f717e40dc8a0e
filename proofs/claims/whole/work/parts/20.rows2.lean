/-! ROWS AS THE PROGRAM THAT LAYS THEM WANTS THEM; calls by what comes back -/
section PMX
variable {G : pm_G} {μ : pm_M} {k : Nat × Nat} {pc : Nat} {l l' st : List Value} {h : pm_H}
theorem v_istore_n {j : Fin 4} {x : Int32} (hd : decode (mi_b μ) pc = .ok (.istore_n j, 1)) (hi : (j : Nat) < μ.1.2.2.1) (hl : pm_st1 l j (.int x) = l') (kk : Wp G μ k (pc + 1) l' st h) : Wp G μ k pc l (.int x :: st) h := w_istore_n hd hi (hl ▸ kk)
theorem v_istore {i : Nat} {x : Int32} (hd : decode (mi_b μ) pc = .ok (.istore i, 2)) (hi : i < μ.1.2.2.1) (hl : pm_st1 l i (.int x) = l') (kk : Wp G μ k (pc + 2) l' st h) : Wp G μ k pc l (.int x :: st) h := w_istore hd hi (hl ▸ kk)
theorem v_fstore_n {j : Fin 4} {x : UInt32} (hd : decode (mi_b μ) pc = .ok (.fstore_n j, 1)) (hi : (j : Nat) < μ.1.2.2.1) (hl : pm_st1 l j (.float x) = l') (kk : Wp G μ k (pc + 1) l' st h) : Wp G μ k pc l (.float x :: st) h := w_fstore_n hd hi (hl ▸ kk)
theorem v_fstore {i : Nat} {x : UInt32} (hd : decode (mi_b μ) pc = .ok (.fstore i, 2)) (hi : i < μ.1.2.2.1) (hl : pm_st1 l i (.float x) = l') (kk : Wp G μ k (pc + 2) l' st h) : Wp G μ k pc l (.float x :: st) h := w_fstore hd hi (hl ▸ kk)
theorem v_astore_n {j : Fin 4} {a : Nat} (hd : decode (mi_b μ) pc = .ok (.astore_n j, 1)) (hi : (j : Nat) < μ.1.2.2.1) (hl : pm_st1 l j (.ref a) = l') (kk : Wp G μ k (pc + 1) l' st h) : Wp G μ k pc l (.ref a :: st) h := w_astore_n hd hi (hl ▸ kk)
theorem v_astore {i : Nat} {a : Nat} (hd : decode (mi_b μ) pc = .ok (.astore i, 2)) (hi : i < μ.1.2.2.1) (hl : pm_st1 l i (.ref a) = l') (kk : Wp G μ k (pc + 2) l' st h) : Wp G μ k pc l (.ref a :: st) h := w_astore hd hi (hl ▸ kk)
theorem v_lstore_n {j : Fin 4} {x : Int64} (hd : decode (mi_b μ) pc = .ok (.lstore_n j, 1)) (hi : (j : Nat) + 1 < μ.1.2.2.1) (hl : pm_st2 l j (.long x) = l') (kk : Wp G μ k (pc + 1) l' st h) : Wp G μ k pc l (.long x :: st) h := w_lstore_n hd hi (hl ▸ kk)
theorem v_lstore {i : Nat} {x : Int64} (hd : decode (mi_b μ) pc = .ok (.lstore i, 2)) (hi : i + 1 < μ.1.2.2.1) (hl : pm_st2 l i (.long x) = l') (kk : Wp G μ k (pc + 2) l' st h) : Wp G μ k pc l (.long x :: st) h := w_lstore hd hi (hl ▸ kk)
theorem v_iinc {i : Nat} {n : Int} {x v : Int32} (hd : decode (mi_b μ) pc = .ok (.iinc i n, 3)) (he : l[i]? = some (.int x)) (hv : x + Int32.ofInt n = v) (hi : i < μ.1.2.2.1) (hl : pm_st1 l i (.int v) = l') (kk : Wp G μ k (pc + 3) l' st h) : Wp G μ k pc l st h := w_iinc hd he hv hi (hl ▸ kk)
theorem v_acmp_ne {i j x y : Nat} {off : Int} {tgt : Nat} (hd : decode (mi_b μ) pc = .ok (.if_acmp .ne off, 3)) (ht : (pc : Int) + off = (tgt : Int)) (hx : x = 1000 + i) (hy : y = 1000 + j) (hi : i < 22) (hj : j < 22) (kt : ¬ i = j → Wp G μ k tgt l st h) (kf : i = j → Wp G μ k (pc + 3) l st h) : Wp G μ k pc l (.ref y :: .ref x :: st) h := by
  subst hx; subst hy
  exact w_acmp_ne hd ht hi hj kt kf
theorem v_wletters {i x idx : Nat} {w : String × Int64 × Int32 × Int32 × Int32} (hd : decode (mi_b μ) pc = .ok (.getfield idx, 3)) (hw : pm_wd[i]? = some w) (hx : x = 1000 + i) (hl : Cond.fieldLink (mi_o μ) idx "RaisedQueue$Word" "letters" "J" ∈ gw ∨ ∃ host, Cond.fieldLinkNest (mi_o μ) idx "RaisedQueue$Word" "letters" "J" host ∈ gn) (kk : Wp G μ k (pc + 3) l (.long w.2.1 :: st) h) : Wp G μ k pc l (.ref x :: st) h := by
  subst hx; exact w_wletters hd hw hl kk
theorem v_wfree {i x idx : Nat} {w : String × Int64 × Int32 × Int32 × Int32} (hd : decode (mi_b μ) pc = .ok (.getfield idx, 3)) (hw : pm_wd[i]? = some w) (hx : x = 1000 + i) (hl : Cond.fieldLink (mi_o μ) idx "RaisedQueue$Word" "free" "Z" ∈ gw ∨ ∃ host, Cond.fieldLinkNest (mi_o μ) idx "RaisedQueue$Word" "free" "Z" host ∈ gn) (kk : Wp G μ k (pc + 3) l (.int w.2.2.1 :: st) h) : Wp G μ k pc l (.ref x :: st) h := by
  subst hx; exact w_wfree hd hw hl kk
theorem v_wkind {i x idx : Nat} {w : String × Int64 × Int32 × Int32 × Int32} (hd : decode (mi_b μ) pc = .ok (.getfield idx, 3)) (hw : pm_wd[i]? = some w) (hx : x = 1000 + i) (hl : Cond.fieldLink (mi_o μ) idx "RaisedQueue$Word" "kind" "I" ∈ gw ∨ ∃ host, Cond.fieldLinkNest (mi_o μ) idx "RaisedQueue$Word" "kind" "I" host ∈ gn) (kk : Wp G μ k (pc + 3) l (.int w.2.2.2.1 :: st) h) : Wp G μ k pc l (.ref x :: st) h := by
  subst hx; exact w_wkind hd hw hl kk
theorem v_wfact {i x idx : Nat} {w : String × Int64 × Int32 × Int32 × Int32} (hd : decode (mi_b μ) pc = .ok (.getfield idx, 3)) (hw : pm_wd[i]? = some w) (hx : x = 1000 + i) (hl : Cond.fieldLink (mi_o μ) idx "RaisedQueue$Word" "fact" "I" ∈ gw ∨ ∃ host, Cond.fieldLinkNest (mi_o μ) idx "RaisedQueue$Word" "fact" "I" host ∈ gn) (kk : Wp G μ k (pc + 3) l (.int w.2.2.2.2 :: st) h) : Wp G μ k pc l (.ref x :: st) h := by
  subst hx; exact w_wfact hd hw hl kk
theorem w_ldcw_f {j : Nat} {v : UInt32} (hd : decode (mi_b μ) pc = .ok (.ldc_w j, 3)) (hc : Cond.constantFloat (mi_o μ) j v ∈ gw) (kk : Wp G μ k (pc + 3) l (.float v :: st) h) : Wp G μ k pc l st h :=
  pm_1 (fun n hl h v hv => by rcases List.mem_cons.mp hv with q | q; exact (by rw [q]; trivial); exact h v (by simp [q])) (fun {p e R s m args below meth c H ls locs cells slots Q ad} C _ K => by
    intro T hT X
    obtain ⟨t, a, b⟩ := K T hT X
    obtain ⟨k, cf, hk, hcf, hcp⟩ := Cond.constantFloat_spec C.2.2.2.1 (C.2.2.2.2.1 _ hc)
    obtain ⟨k', hk', he⟩ := X.warmed.alike.2.2 _ _ hk
    refine ⟨t, ?_, b⟩
    jvm_step X.here [C.1, C.2.1, hd, ldc_w.wp_float (s := T) (f := F0 m pc ls (st.map (pm_vm ad))) X.here.top hk' (by rw [he]; exact hcf) hcp]
    exact a) kk
/-- locals that nobody needs -/
def pm_dr : List Value → List Value → Prop
  | [], [] => True
  | v :: r, w :: t => (v = .null ∨ v = w) ∧ pm_dr r t
  | _, _ => False
theorem pm_dr_at : ∀ {l' l : List Value}, pm_dr l' l → l'.length = l.length ∧ ∀ (i : Nat) (v : Value), l'[i]? = some v → v ≠ .null → l[i]? = some v
  | [], [], _ => ⟨rfl, fun i v h => by simp at h⟩
  | v :: r, w :: t, hd => by
    obtain ⟨h1, h2⟩ := hd
    obtain ⟨h3, h4⟩ := pm_dr_at h2
    refine ⟨by simp [h3], fun i u hu hn => ?_⟩
    cases i with
    | zero =>
      simp at hu
      subst hu
      rcases h1 with h1 | h1
      · exact absurd h1 hn
      · simp [h1]
    | succ i =>
      simp at hu
      simp
      exact h4 i u hu hn
theorem w_drop (hd : pm_dr l' l) (kk : Wp G μ k pc l' st h) : Wp G μ k pc l st h := by
  obtain ⟨h1, h2⟩ := pm_dr_at hd
  intro ad0 n0 ad p e s m args below meth c H ls locs hC hn0 hE hS hSS hL hl hst
  refine kk ad0 n0 ad p e s m args below meth c H ls locs hC hn0 hE hS hSS ⟨hL.1, hL.2.1, h1.trans hL.2.2.1, fun i v hi hv => hL.2.2.2 i v (h2 i v hi hv) hv⟩ (fun v hv => ?_) hst
  by_cases hn : v = .null
  · rw [hn]; trivial
  · obtain ⟨i, hi⟩ := List.getElem?_of_mem hv
    exact hl v (List.mem_of_getElem? (h2 i v hi hn))
theorem pm_nz {x : Int32} (h : x = 0 ∨ x = 1) : narrow .boolean (.int x) = .int x := by
  rcases h with rfl | rfl <;> rfl
end PMX
/-- a weaker end -/
theorem Ct.mono {G : pm_G} {d : Nat} {mi : pm_I} {mc ms : Nat} {av : List Value} {h : pm_H} {P Q : pm_PT} (hc : Ct G d mi mc ms av h P) (hPQ : ∀ v h', P v h' → Q v h') : Ct G d mi mc ms av h Q := by
  intro hok ad p e ha hcl hk s m args below hf hfit hpre hk2
  obtain ⟨n, o, h1, h2, h3, h4, h5⟩ := hc hok ad p e ha hcl hk s m args below hf hfit hpre hk2
  obtain ⟨⟨v, ad', h', e1, e2, e3⟩, h6⟩ := h4
  exact ⟨n, o, h1, h2, h3, ⟨⟨v, ad', h', e1, hPQ _ _ e2, e3⟩, h6⟩, h5⟩
def ci (G : pm_G) (d : Nat) (mi : pm_I) (av : List Value) (h : pm_H) (Q : Int32 → pm_H → Prop) : Prop := Ct G d mi 0 0 av h (fun v h1 => ∃ r, v = some (.int r) ∧ Q r h1)
def cl (G : pm_G) (d : Nat) (mi : pm_I) (av : List Value) (h : pm_H) (Q : Int64 → pm_H → Prop) : Prop := Ct G d mi 0 0 av h (fun v h1 => ∃ r, v = some (.long r) ∧ Q r h1)
def cf (G : pm_G) (d : Nat) (mi : pm_I) (av : List Value) (h : pm_H) (Q : UInt32 → pm_H → Prop) : Prop := Ct G d mi 0 0 av h (fun v h1 => ∃ r, v = some (.float r) ∧ Q r h1)
def cp (G : pm_G) (d : Nat) (mi : pm_I) (av : List Value) (h : pm_H) (Q : Nat → pm_H → Prop) : Prop := Ct G d mi 0 0 av h (fun v h1 => ∃ r, v = some (.ref r) ∧ Q r h1)
def cv (G : pm_G) (d : Nat) (mi : pm_I) (av : List Value) (h : pm_H) (Q : pm_H → Prop) : Prop := Ct G d mi 0 0 av h (fun v h1 => v = none ∧ Q h1)
def ca (G : pm_G) (d : Nat) (mi : pm_I) (mc ms : Nat) (av : List Value) (h : pm_H) (Q : pm_H → Prop) : Prop := Ct G d mi mc ms av h (fun v h1 => v = none ∧ Q h1)
theorem pm_lsw_none {df x : Int} : ∀ {ps : List (Int × Int)}, (∀ a ∈ ps, a.1 ≠ x) → Op.lookupswitch.offset ps df x = df
  | [], _ => rfl
  | (a, o) :: r, h => by
    rw [Op.lookupswitch.offset, if_neg (h (a, o) List.mem_cons_self)]
    exact pm_lsw_none fun b hb => h b (List.mem_cons_of_mem _ hb)
