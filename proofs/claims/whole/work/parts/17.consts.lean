/-! THE SCRIPT, THE WORDS, WHAT IS MADE -/
section PMC
variable {G : pm_G} {μ : pm_M} {k : Nat × Nat} {pc : Nat} {l st : List Value} {h : pm_H}
theorem pm_adc {n : Nat} {ad : pm_AD} (hX : pm_ad G n ad) {j : Nat} (hj : j < 201) : ad (1000 + j) = some (gC G j) := by rw [hX.2.1 j, if_pos hj]
theorem w_sald {i : Int32} (hd : decode (mi_b μ) pc = .ok (.iaload, 1)) (hin : vp_in i (gN G)) (kk : Wp G μ k (pc + 1) l (.int (gX G i.toNatClampNeg) :: st) h) : Wp G μ k pc l (.int i :: .ref 1200 :: st) h := by
  intro ad0 n0 ad p e s m args below meth c0 H ls locs hC hn0 hE hS hSS hL hl hst
  have hT := hC.2.2.2.2.2.2.2.2
  have e1 : pm_vm ad (.ref 1200) = .ref (gC G 200) := by simp [pm_vm, pm_adc (j := 200) hS.2.2.1 (by omega), va_rf]
  have K := kk ad0 n0 ad p e s m args below meth c0 H ls locs hC hn0 hE hS hSS hL hl (fun v hv => by
    rcases List.mem_cons.mp hv with z | z
    · rw [z]; trivial
    · exact pm_tl (pm_tl hst) v z)
  rw [List.map_cons, List.map_cons, e1]
  obtain ⟨-, -, -, -, h5, h6, -⟩ := hT.2.1
  have hbl : gC G 200 < s.heap.size := by
    obtain ⟨scr, hb, -⟩ := h5
    exact (Array.getElem?_eq_some_iff.mp hb).1
  exact va_sld hC.1 hC.2.1 h5 hbl h6 hSS hin hd K
theorem w_slen (hd : decode (mi_b μ) pc = .ok (.arraylength, 1)) (kk : Wp G μ k (pc + 1) l (.int (Int32.ofNat (gN G)) :: st) h) : Wp G μ k pc l (.ref 1200 :: st) h := by
  intro ad0 n0 ad p e s m args below meth c0 H ls locs hC hn0 hE hS hSS hL hl hst
  have hT := hC.2.2.2.2.2.2.2.2
  have e1 : pm_vm ad (.ref 1200) = .ref (gC G 200) := by simp [pm_vm, pm_adc (j := 200) hS.2.2.1 (by omega), va_rf]
  have K := kk ad0 n0 ad p e s m args below meth c0 H ls locs hC hn0 hE hS hSS hL hl (fun v hv => by
    rcases List.mem_cons.mp hv with z | z
    · rw [z]; trivial
    · exact pm_tl hst v z)
  rw [List.map_cons, e1]
  obtain ⟨-, -, -, -, h5, h6, -⟩ := hT.2.1
  have hbl : gC G 200 < s.heap.size := by
    obtain ⟨scr, hb, -⟩ := h5
    exact (Array.getElem?_eq_some_iff.mp hb).1
  exact va_slen hC.1 hC.2.1 h5 hbl h6 hSS hd K
theorem w_getw {i idx : Nat} {w : String × Int64 × Int32 × Int32 × Int32} (hd : decode (mi_b μ) pc = .ok (.getstatic idx, 3)) (hw : pm_wd[i]? = some w) (hl : Cond.fieldLink (mi_o μ) idx "RaisedQueue$Word" w.1 "LRaisedQueue$Word;" ∈ gw) (kk : Wp G μ k (pc + 3) l (.ref (1000 + i) :: st) h) : Wp G μ k pc l st h := by
  intro ad0 n0 ad p e s m args below meth c0 H ls locs hC hn0 hE hS hSS hL hl2 hst
  have hT := hC.2.2.2.2.2.2.2.2
  have hi : i < 22 := (List.getElem?_eq_some_iff.mp hw).1
  have e1 : pm_vm ad (.ref (1000 + i)) = .ref (gC G i) := by simp [pm_vm, pm_adc (j := i) hS.2.2.1 (by omega), va_rf]
  have K := kk ad0 n0 ad p e s m args below meth c0 H ls locs hC hn0 hE hS hSS hL hl2 (fun v hv => by
    rcases List.mem_cons.mp hv with z | z
    · rw [z]; exact Or.inr (Nat.le_add_right 1000 _)
    · exact hst v z)
  rw [List.map_cons, e1] at K
  exact va_gets hC.1 hC.2.1 (hT.2.1.1 i w hw).1 hSS hC.2.2.2.1 (hC.2.2.2.2.1 _ hl) (fun _ z => z) hd K
theorem w_getws {idx : Nat} (hd : decode (mi_b μ) pc = .ok (.getstatic idx, 3)) (hl : Cond.fieldLink (mi_o μ) idx "RaisedQueue$Word" "WORDS" "[LRaisedQueue$Word;" ∈ gw) (kk : Wp G μ k (pc + 3) l (.ref 1100 :: st) h) : Wp G μ k pc l st h := by
  intro ad0 n0 ad p e s m args below meth c0 H ls locs hC hn0 hE hS hSS hL hl2 hst
  have hT := hC.2.2.2.2.2.2.2.2
  have e1 : pm_vm ad (.ref 1100) = .ref (gC G 100) := by simp [pm_vm, pm_adc (j := 100) hS.2.2.1 (by omega), va_rf]
  have K := kk ad0 n0 ad p e s m args below meth c0 H ls locs hC hn0 hE hS hSS hL hl2 (fun v hv => by
    rcases List.mem_cons.mp hv with z | z
    · rw [z]; exact Or.inr (Nat.le_add_right 1000 100)
    · exact hst v z)
  rw [List.map_cons, e1] at K
  exact va_gets hC.1 hC.2.1 hT.2.1.2.2.1 hSS hC.2.2.2.1 (hC.2.2.2.2.1 _ hl) (fun _ z => z) hd K
theorem w_wlen {v : Int32} (hd : decode (mi_b μ) pc = .ok (.arraylength, 1)) (hv : v = 22) (kk : Wp G μ k (pc + 1) l (.int v :: st) h) : Wp G μ k pc l (.ref 1100 :: st) h := by
  intro ad0 n0 ad p e s m args below meth c0 H ls locs hC hn0 hE hS hSS hL hl2 hst
  have hT := hC.2.2.2.2.2.2.2.2
  have e1 : pm_vm ad (.ref 1100) = .ref (gC G 100) := by simp [pm_vm, pm_adc (j := 100) hS.2.2.1 (by omega), va_rf]
  have K := kk ad0 n0 ad p e s m args below meth c0 H ls locs hC hn0 hE hS hSS hL hl2 (fun v hv => by
    rcases List.mem_cons.mp hv with z | z
    · rw [z]; trivial
    · exact pm_tl hst v z)
  rw [List.map_cons, e1]
  exact va_tlen hC.1 hC.2.1 hT.2.1.2.2.2.1 hSS (by rw [hv]; rfl) hd K
theorem w_wald {i : Int32} (hd : decode (mi_b μ) pc = .ok (.aaload, 1)) (hin : vp_in i 22) (kk : Wp G μ k (pc + 1) l (.ref (1000 + i.toNatClampNeg) :: st) h) : Wp G μ k pc l (.int i :: .ref 1100 :: st) h := by
  intro ad0 n0 ad p e s m args below meth c0 H ls locs hC hn0 hE hS hSS hL hl2 hst
  have hT := hC.2.2.2.2.2.2.2.2
  have hi : i.toNatClampNeg < 22 := Nat.not_le.mp fun q => hin (Or.inr q)
  have e1 : pm_vm ad (.ref 1100) = .ref (gC G 100) := by simp [pm_vm, pm_adc (j := 100) hS.2.2.1 (by omega), va_rf]
  have e2 : pm_vm ad (.ref (1000 + i.toNatClampNeg)) = .ref (gC G i.toNatClampNeg) := by simp [pm_vm, pm_adc (j := i.toNatClampNeg) hS.2.2.1 (by omega), va_rf]
  have K := kk ad0 n0 ad p e s m args below meth c0 H ls locs hC hn0 hE hS hSS hL hl2 (fun v hv => by
    rcases List.mem_cons.mp hv with z | z
    · rw [z]; exact Or.inr (Nat.le_add_right 1000 _)
    · exact pm_tl (pm_tl hst) v z)
  rw [List.map_cons, e2] at K
  rw [List.map_cons, List.map_cons, e1]
  exact vb_tq hC.1 hC.2.1 hT.2.1.2.2.2.1 hSS hin rfl hd K
theorem w_wget {i idx : Nat} {n d : String} {v : Value} (hd : decode (mi_b μ) pc = .ok (.getfield idx, 3)) (hi : i < 22) (hl : Cond.fieldLink (mi_o μ) idx "RaisedQueue$Word" n d ∈ gw ∨ ∃ host, Cond.fieldLinkNest (mi_o μ) idx "RaisedQueue$Word" n d host ∈ gn)
    (hF : ∀ (U : State) (H : Heap), pm_Cs G U H → va_OF "RaisedQueue$Word" n d v (gC G i) (pm_A G) U H) (hv : ∀ ad, pm_vm ad v = v) (hok : ∀ n, pm_ok n v) (kk : Wp G μ k (pc + 3) l (v :: st) h) : Wp G μ k pc l (.ref (1000 + i) :: st) h := by
  intro ad0 n0 ad p e s m args below meth c0 H ls locs hC hn0 hE hS hSS hL hl2 hst
  have hT := hC.2.2.2.2.2.2.2.2
  have e1 : pm_vm ad (.ref (1000 + i)) = .ref (gC G i) := by simp [pm_vm, pm_adc (j := i) hS.2.2.1 (by omega), va_rf]
  have K := kk ad0 n0 ad p e s m args below meth c0 H ls locs hC hn0 hE hS hSS hL hl2 (fun w hw => by
    rcases List.mem_cons.mp hw with z | z
    · rw [z]; exact hok _
    · exact pm_tl hst w z)
  rw [List.map_cons, hv] at K
  rw [List.map_cons, e1]
  obtain ⟨cf, k, fi, f, cell, h1, h2, h3, h4, h5, h6⟩ := (hF s s.heap hT.2.1).kept hSS.2.1
  rcases hl with hl | ⟨host, hl⟩
  · exact W.getf hC.1 hC.2.1 hC.2.2.2.1 (hC.2.2.2.2.1 _ hl) h1 h2 h3 h4 (v := v) h5 rfl rfl hd K
  · exact va_Wgetf hC.1 hC.2.1 hC.2.2.2.1 ((hT.2.2.2.1 _ hl).use rfl) h1 h2 h3 h4 (v := v) h5 rfl rfl hd K
theorem w_wletters {i idx : Nat} {w : String × Int64 × Int32 × Int32 × Int32} (hd : decode (mi_b μ) pc = .ok (.getfield idx, 3)) (hw : pm_wd[i]? = some w) (hl : Cond.fieldLink (mi_o μ) idx "RaisedQueue$Word" "letters" "J" ∈ gw ∨ ∃ host, Cond.fieldLinkNest (mi_o μ) idx "RaisedQueue$Word" "letters" "J" host ∈ gn) (kk : Wp G μ k (pc + 3) l (.long w.2.1 :: st) h) : Wp G μ k pc l (.ref (1000 + i) :: st) h :=
  w_wget hd (List.getElem?_eq_some_iff.mp hw).1 hl (fun U H C => (C.1 i w hw).2.2.1) (fun _ => rfl) (fun _ => trivial) kk
theorem w_wfree {i idx : Nat} {w : String × Int64 × Int32 × Int32 × Int32} (hd : decode (mi_b μ) pc = .ok (.getfield idx, 3)) (hw : pm_wd[i]? = some w) (hl : Cond.fieldLink (mi_o μ) idx "RaisedQueue$Word" "free" "Z" ∈ gw ∨ ∃ host, Cond.fieldLinkNest (mi_o μ) idx "RaisedQueue$Word" "free" "Z" host ∈ gn) (kk : Wp G μ k (pc + 3) l (.int w.2.2.1 :: st) h) : Wp G μ k pc l (.ref (1000 + i) :: st) h :=
  w_wget hd (List.getElem?_eq_some_iff.mp hw).1 hl (fun U H C => (C.1 i w hw).2.2.2.1) (fun _ => rfl) (fun _ => trivial) kk
theorem w_wkind {i idx : Nat} {w : String × Int64 × Int32 × Int32 × Int32} (hd : decode (mi_b μ) pc = .ok (.getfield idx, 3)) (hw : pm_wd[i]? = some w) (hl : Cond.fieldLink (mi_o μ) idx "RaisedQueue$Word" "kind" "I" ∈ gw ∨ ∃ host, Cond.fieldLinkNest (mi_o μ) idx "RaisedQueue$Word" "kind" "I" host ∈ gn) (kk : Wp G μ k (pc + 3) l (.int w.2.2.2.1 :: st) h) : Wp G μ k pc l (.ref (1000 + i) :: st) h :=
  w_wget hd (List.getElem?_eq_some_iff.mp hw).1 hl (fun U H C => (C.1 i w hw).2.2.2.2.1) (fun _ => rfl) (fun _ => trivial) kk
theorem w_wfact {i idx : Nat} {w : String × Int64 × Int32 × Int32 × Int32} (hd : decode (mi_b μ) pc = .ok (.getfield idx, 3)) (hw : pm_wd[i]? = some w) (hl : Cond.fieldLink (mi_o μ) idx "RaisedQueue$Word" "fact" "I" ∈ gw ∨ ∃ host, Cond.fieldLinkNest (mi_o μ) idx "RaisedQueue$Word" "fact" "I" host ∈ gn) (kk : Wp G μ k (pc + 3) l (.int w.2.2.2.2 :: st) h) : Wp G μ k pc l (.ref (1000 + i) :: st) h :=
  w_wget hd (List.getElem?_eq_some_iff.mp hw).1 hl (fun U H C => (C.1 i w hw).2.2.2.2.2) (fun _ => rfl) (fun _ => trivial) kk
theorem w_aast {a n b : Nat} {i : Int32} (hd : decode (mi_b μ) pc = .ok (.aastore, 1)) (hk : h.1[a]? = some (6, n)) (hb : h.1[b]? = some (0, 0)) (hin : vp_in i n) (kk : Wp G μ k (pc + 1) l st (sp h a i.toNatClampNeg b)) : Wp G μ k pc l (.ref b :: .int i :: .ref a :: st) h := by
  intro ad0 n0 ad p e s m args below meth c0 H ls locs hC hn0 hE hS hSS hL hl hst
  obtain ⟨r, hr, hw⟩ := pm_cell hS (pm_lt hk)
  obtain ⟨r2, hr2, hw2⟩ := pm_cell hS (pm_lt hb)
  rw [pm_en_a hk] at hw
  rw [pm_en_obj hb] at hw2
  have hne : a ≠ b := fun z => by rw [z, hb] at hk; cases hk
  have e1 : pm_vm ad (.ref a) = .ref r := by simp [pm_vm, hr, va_rf]
  have e2 : pm_vm ad (.ref b) = .ref r2 := by simp [pm_vm, hr2, va_rf]
  have eqw : (pm_ws G ad h).set a ((ad a).getD 0, pm_en G ad (sp h a i.toNatClampNeg b) a) = pm_ws G ad (sp h a i.toNatClampNeg b) := pm_ws_set rfl rfl (fun b hb => pm_en_eq rfl rfl rfl rfl (pm_u_ne _ _ _ hb))
  rw [pm_en_a (h := sp h a i.toNatClampNeg b) hk, hr] at eqw
  have hf : (fun j => ad (gp (sp h a i.toNatClampNeg b) a j)) = va_up (fun j => ad (gp h a j)) i.toNatClampNeg (some r2) := by
    funext j
    simp only [gp, sp, pm_u_at, pm_ui, va_up]
    split
    · exact hr2
    · rfl
  rw [hf] at eqw
  rw [List.map_cons, List.map_cons, List.map_cons, e1, e2]
  refine va_astq hC.1 hC.2.1 hC.2.2.2.2.2.2.2.2.1 hS.1 hS.2.1 hSS a 5 b 0 (r := (RX0, TX0, 16)) hw rfl hw2 rfl hin hd (fun H1 locs1 q1 q2 q3 => ?_)
  have e3 := eqw
  refine kk ad0 n0 ad p e s m args below meth c0 H1 ls locs1 hC hn0 hE ⟨by rw [← e3]; exact q1, by rw [← e3]; exact q2, hS.2.2.1, fun x j => ?_⟩ q3 hL hl (pm_tl (pm_tl (pm_tl hst)))
  show pm_ok _ (.ref (pm_u (gp h) a i.toNatClampNeg b x j))
  unfold pm_u
  split
  · split
    · exact Or.inl (pm_lt hb)
    · exact hS.2.2.2 x j
  · exact hS.2.2.2 x j
end PMC
