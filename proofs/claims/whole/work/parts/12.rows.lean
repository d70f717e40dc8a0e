/-! A ROW AN INSTRUCTION: what needs no heap -/
theorem pm_1 {G : pm_G} {μ : pm_M} {k : Nat × Nat} {pc pc' : Nat} {l st st' : List Value} {h : pm_H} (hok : ∀ n, (∀ v ∈ l, pm_ok n v) → (∀ v ∈ st, pm_ok n v) → ∀ v ∈ st', pm_ok n v)
    (step : ∀ {p : Program} {e : Env} {R : Room} {s : State} {m : MethodId} {args : Array Value} {below : List Frame} {meth : Method} {c : Code} {H : Heap} {ls : Array Slot} {locs : List Loc} {cells slots : Nat} {Q : State → Prop} {ad : pm_AD}, pm_Cx G μ.1 p s m args meth c → pm_L ad ls μ.1.2.2.1 l →
      W p (gl G) e R s m args below meth c H locs cells slots Q (F0 m pc' ls (st'.map (pm_vm ad))) → W p (gl G) e R s m args below meth c H locs cells slots Q (F0 m pc ls (st.map (pm_vm ad))))
    (kk : Wp G μ k pc' l st' h) : Wp G μ k pc l st h := by
  intro ad0 n0 ad p e s m args below meth c H ls locs hC hn hE hS hSS hL hl hst
  exact step hC hL (kk ad0 n0 ad p e s m args below meth c H ls locs hC hn hE hS hSS hL hl (hok _ hl hst))
theorem pm_2 {G : pm_G} {μ : pm_M} {k : Nat × Nat} {pc pc1 pc2 : Nat} {l st st' : List Value} {h : pm_H} {C D : Prop} (hok : ∀ n, (∀ v ∈ st, pm_ok n v) → ∀ v ∈ st', pm_ok n v)
    (step : ∀ {p : Program} {e : Env} {R : Room} {s : State} {m : MethodId} {args : Array Value} {below : List Frame} {meth : Method} {c : Code} {H : Heap} {ls : Array Slot} {locs : List Loc} {cells slots : Nat} {Q : State → Prop} {ad : pm_AD} {n : Nat}, pm_Cx G μ.1 p s m args meth c → pm_ad G n ad → (∀ v ∈ st, pm_ok n v) →
      (C → W p (gl G) e R s m args below meth c H locs cells slots Q (F0 m pc1 ls (st'.map (pm_vm ad)))) → (D → W p (gl G) e R s m args below meth c H locs cells slots Q (F0 m pc2 ls (st'.map (pm_vm ad)))) → W p (gl G) e R s m args below meth c H locs cells slots Q (F0 m pc ls (st.map (pm_vm ad))))
    (k1 : C → Wp G μ k pc1 l st' h) (k2 : D → Wp G μ k pc2 l st' h) : Wp G μ k pc l st h := by
  intro ad0 n0 ad p e s m args below meth c H ls locs hC hn hE hS hSS hL hl hst
  exact step hC hS.2.2.1 hst (fun q => k1 q ad0 n0 ad p e s m args below meth c H ls locs hC hn hE hS hSS hL hl (hok _ hst)) (fun q => k2 q ad0 n0 ad p e s m args below meth c H ls locs hC hn hE hS hSS hL hl (hok _ hst))
section PMR
variable {G : pm_G} {μ : pm_M} {k : Nat × Nat} {pc : Nat} {l st : List Value} {h : pm_H}
theorem w_iadd {x y : Int32} (hd : decode (mi_b μ) pc = .ok (.iadd, 1)) (kk : Wp G μ k (pc + 1) l (.int (x + y) :: st) h) : Wp G μ k pc l (.int y :: .int x :: st) h :=
  pm_1 (fun n hl h v hv => by rcases List.mem_cons.mp hv with q | q; exact (by rw [q]; trivial); exact h v (by simp [q])) (fun C _ K => lv_iadd C.1 C.2.1 hd K) kk
theorem w_isub {x y : Int32} (hd : decode (mi_b μ) pc = .ok (.isub, 1)) (kk : Wp G μ k (pc + 1) l (.int (x - y) :: st) h) : Wp G μ k pc l (.int y :: .int x :: st) h :=
  pm_1 (fun n hl h v hv => by rcases List.mem_cons.mp hv with q | q; exact (by rw [q]; trivial); exact h v (by simp [q])) (fun C _ K => lv_isub C.1 C.2.1 hd K) kk
theorem w_imul {x y : Int32} (hd : decode (mi_b μ) pc = .ok (.imul, 1)) (kk : Wp G μ k (pc + 1) l (.int (x * y) :: st) h) : Wp G μ k pc l (.int y :: .int x :: st) h :=
  pm_1 (fun n hl h v hv => by rcases List.mem_cons.mp hv with q | q; exact (by rw [q]; trivial); exact h v (by simp [q])) (fun C _ K => lv_imul C.1 C.2.1 hd K) kk
theorem w_iand {x y : Int32} (hd : decode (mi_b μ) pc = .ok (.iand, 1)) (kk : Wp G μ k (pc + 1) l (.int (x &&& y) :: st) h) : Wp G μ k pc l (.int y :: .int x :: st) h :=
  pm_1 (fun n hl h v hv => by rcases List.mem_cons.mp hv with q | q; exact (by rw [q]; trivial); exact h v (by simp [q])) (fun C _ K => lv_iand C.1 C.2.1 hd K) kk
theorem w_ior {x y : Int32} (hd : decode (mi_b μ) pc = .ok (.ior, 1)) (kk : Wp G μ k (pc + 1) l (.int (x ||| y) :: st) h) : Wp G μ k pc l (.int y :: .int x :: st) h :=
  pm_1 (fun n hl h v hv => by rcases List.mem_cons.mp hv with q | q; exact (by rw [q]; trivial); exact h v (by simp [q])) (fun C _ K => lv_ior C.1 C.2.1 hd K) kk
theorem w_ixor {x y : Int32} (hd : decode (mi_b μ) pc = .ok (.ixor, 1)) (kk : Wp G μ k (pc + 1) l (.int (x ^^^ y) :: st) h) : Wp G μ k pc l (.int y :: .int x :: st) h :=
  pm_1 (fun n hl h v hv => by rcases List.mem_cons.mp hv with q | q; exact (by rw [q]; trivial); exact h v (by simp [q])) (fun C _ K => lv_ixor C.1 C.2.1 hd K) kk
theorem w_idiv {x y : Int32} (hd : decode (mi_b μ) pc = .ok (.idiv, 1)) (hne : ¬ y = 0) (kk : Wp G μ k (pc + 1) l (.int (x / y) :: st) h) : Wp G μ k pc l (.int y :: .int x :: st) h :=
  pm_1 (fun n hl h v hv => by rcases List.mem_cons.mp hv with q | q; exact (by rw [q]; trivial); exact h v (by simp [q])) (fun C _ K => lv_idiv C.1 C.2.1 hd hne K) kk
theorem w_irem {x y : Int32} (hd : decode (mi_b μ) pc = .ok (.irem, 1)) (hne : ¬ y = 0) (kk : Wp G μ k (pc + 1) l (.int (x - x / y * y) :: st) h) : Wp G μ k pc l (.int y :: .int x :: st) h :=
  pm_1 (fun n hl h v hv => by rcases List.mem_cons.mp hv with q | q; exact (by rw [q]; trivial); exact h v (by simp [q])) (fun C _ K => lv_irem C.1 C.2.1 hd hne K) kk
theorem w_ineg {x : Int32} (hd : decode (mi_b μ) pc = .ok (.ineg, 1)) (kk : Wp G μ k (pc + 1) l (.int (-x) :: st) h) : Wp G μ k pc l (.int x :: st) h :=
  pm_1 (fun n hl h v hv => by rcases List.mem_cons.mp hv with q | q; exact (by rw [q]; trivial); exact h v (by simp [q])) (fun C _ K => lv_ineg C.1 C.2.1 hd K) kk
theorem w_ishl {x y : Int32} (hd : decode (mi_b μ) pc = .ok (.ishl, 1)) (kk : Wp G μ k (pc + 1) l (.int (x <<< (y &&& 31)) :: st) h) : Wp G μ k pc l (.int y :: .int x :: st) h :=
  pm_1 (fun n hl h v hv => by rcases List.mem_cons.mp hv with q | q; exact (by rw [q]; trivial); exact h v (by simp [q])) (fun C _ K => lv_ishl C.1 C.2.1 hd K) kk
theorem w_ishr {x y : Int32} (hd : decode (mi_b μ) pc = .ok (.ishr, 1)) (kk : Wp G μ k (pc + 1) l (.int (x >>> (y &&& 31)) :: st) h) : Wp G μ k pc l (.int y :: .int x :: st) h :=
  pm_1 (fun n hl h v hv => by rcases List.mem_cons.mp hv with q | q; exact (by rw [q]; trivial); exact h v (by simp [q])) (fun C _ K => lv_ishr C.1 C.2.1 hd K) kk
theorem w_iushr {x y : Int32} (hd : decode (mi_b μ) pc = .ok (.iushr, 1)) (kk : Wp G μ k (pc + 1) l (.int ((x.toUInt32 >>> (y.toUInt32 &&& Int32.toUInt32 31)).toInt32) :: st) h) : Wp G μ k pc l (.int y :: .int x :: st) h :=
  pm_1 (fun n hl h v hv => by rcases List.mem_cons.mp hv with q | q; exact (by rw [q]; trivial); exact h v (by simp [q])) (fun C _ K => lv_iushr C.1 C.2.1 hd rfl K) kk
theorem w_ladd {x y : Int64} (hd : decode (mi_b μ) pc = .ok (.ladd, 1)) (kk : Wp G μ k (pc + 1) l (.long (x + y) :: st) h) : Wp G μ k pc l (.long y :: .long x :: st) h :=
  pm_1 (fun n hl h v hv => by rcases List.mem_cons.mp hv with q | q; exact (by rw [q]; trivial); exact h v (by simp [q])) (fun C _ K => lv_ladd C.1 C.2.1 hd K) kk
theorem w_lsub {x y : Int64} (hd : decode (mi_b μ) pc = .ok (.lsub, 1)) (kk : Wp G μ k (pc + 1) l (.long (x - y) :: st) h) : Wp G μ k pc l (.long y :: .long x :: st) h :=
  pm_1 (fun n hl h v hv => by rcases List.mem_cons.mp hv with q | q; exact (by rw [q]; trivial); exact h v (by simp [q])) (fun C _ K => lv_lsub C.1 C.2.1 hd K) kk
theorem w_lmul {x y : Int64} (hd : decode (mi_b μ) pc = .ok (.lmul, 1)) (kk : Wp G μ k (pc + 1) l (.long (x * y) :: st) h) : Wp G μ k pc l (.long y :: .long x :: st) h :=
  pm_1 (fun n hl h v hv => by rcases List.mem_cons.mp hv with q | q; exact (by rw [q]; trivial); exact h v (by simp [q])) (fun C _ K => lv_lmul C.1 C.2.1 hd K) kk
theorem w_land {x y : Int64} (hd : decode (mi_b μ) pc = .ok (.land, 1)) (kk : Wp G μ k (pc + 1) l (.long (x &&& y) :: st) h) : Wp G μ k pc l (.long y :: .long x :: st) h :=
  pm_1 (fun n hl h v hv => by rcases List.mem_cons.mp hv with q | q; exact (by rw [q]; trivial); exact h v (by simp [q])) (fun C _ K => lv_land C.1 C.2.1 hd K) kk
theorem w_lor {x y : Int64} (hd : decode (mi_b μ) pc = .ok (.lor, 1)) (kk : Wp G μ k (pc + 1) l (.long (x ||| y) :: st) h) : Wp G μ k pc l (.long y :: .long x :: st) h :=
  pm_1 (fun n hl h v hv => by rcases List.mem_cons.mp hv with q | q; exact (by rw [q]; trivial); exact h v (by simp [q])) (fun C _ K => lv_lor C.1 C.2.1 hd K) kk
theorem w_ldiv {x y : Int64} (hd : decode (mi_b μ) pc = .ok (.ldiv, 1)) (hne : ¬ y = 0) (kk : Wp G μ k (pc + 1) l (.long (x / y) :: st) h) : Wp G μ k pc l (.long y :: .long x :: st) h :=
  pm_1 (fun n hl h v hv => by rcases List.mem_cons.mp hv with q | q; exact (by rw [q]; trivial); exact h v (by simp [q])) (fun C _ K => lv_ldiv C.1 C.2.1 hd hne K) kk
theorem w_lrem {x y : Int64} (hd : decode (mi_b μ) pc = .ok (.lrem, 1)) (hne : ¬ y = 0) (kk : Wp G μ k (pc + 1) l (.long (x - x / y * y) :: st) h) : Wp G μ k pc l (.long y :: .long x :: st) h :=
  pm_1 (fun n hl h v hv => by rcases List.mem_cons.mp hv with q | q; exact (by rw [q]; trivial); exact h v (by simp [q])) (fun C _ K => lv_lrem C.1 C.2.1 hd hne K) kk
theorem w_lshl {x : Int64} {y : Int32} (hd : decode (mi_b μ) pc = .ok (.lshl, 1)) (kk : Wp G μ k (pc + 1) l (.long (x <<< (y.toInt64 &&& 63)) :: st) h) : Wp G μ k pc l (.int y :: .long x :: st) h :=
  pm_1 (fun n hl h v hv => by rcases List.mem_cons.mp hv with q | q; exact (by rw [q]; trivial); exact h v (by simp [q])) (fun C _ K => lv_lshl C.1 C.2.1 hd rfl K) kk
theorem w_lshr {x : Int64} {y : Int32} (hd : decode (mi_b μ) pc = .ok (.lshr, 1)) (kk : Wp G μ k (pc + 1) l (.long (x >>> (y.toInt64 &&& 63)) :: st) h) : Wp G μ k pc l (.int y :: .long x :: st) h :=
  pm_1 (fun n hl h v hv => by rcases List.mem_cons.mp hv with q | q; exact (by rw [q]; trivial); exact h v (by simp [q])) (fun C _ K => lv_lshr C.1 C.2.1 hd rfl K) kk
theorem w_lushr {x : Int64} {y : Int32} (hd : decode (mi_b μ) pc = .ok (.lushr, 1)) (kk : Wp G μ k (pc + 1) l (.long ((x.toUInt64 >>> (y.toInt64.toUInt64 &&& 63)).toInt64) :: st) h) : Wp G μ k pc l (.int y :: .long x :: st) h :=
  pm_1 (fun n hl h v hv => by rcases List.mem_cons.mp hv with q | q; exact (by rw [q]; trivial); exact h v (by simp [q])) (fun C _ K => lv_lushr C.1 C.2.1 hd rfl K) kk
theorem w_lcmp {x y : Int64} (hd : decode (mi_b μ) pc = .ok (.lcmp, 1)) (kk : Wp G μ k (pc + 1) l (.int (lg_cmp x y) :: st) h) : Wp G μ k pc l (.long y :: .long x :: st) h :=
  pm_1 (fun n hl h v hv => by rcases List.mem_cons.mp hv with q | q; exact (by rw [q]; trivial); exact h v (by simp [q])) (fun C _ K => W.lcmp C.1 C.2.1 hd K) kk
theorem w_i2l {x : Int32} (hd : decode (mi_b μ) pc = .ok (.i2l, 1)) (kk : Wp G μ k (pc + 1) l (.long x.toInt64 :: st) h) : Wp G μ k pc l (.int x :: st) h :=
  pm_1 (fun n hl h v hv => by rcases List.mem_cons.mp hv with q | q; exact (by rw [q]; trivial); exact h v (by simp [q])) (fun C _ K => lv_i2l C.1 C.2.1 hd rfl K) kk
theorem w_l2i {x : Int64} (hd : decode (mi_b μ) pc = .ok (.l2i, 1)) (kk : Wp G μ k (pc + 1) l (.int x.toInt32 :: st) h) : Wp G μ k pc l (.long x :: st) h :=
  pm_1 (fun n hl h v hv => by rcases List.mem_cons.mp hv with q | q; exact (by rw [q]; trivial); exact h v (by simp [q])) (fun C _ K => lv_l2i C.1 C.2.1 hd rfl K) kk
theorem w_i2b {x : Int32} (hd : decode (mi_b μ) pc = .ok (.i2b, 1)) (kk : Wp G μ k (pc + 1) l (.int x.toInt8.toInt32 :: st) h) : Wp G μ k pc l (.int x :: st) h :=
  pm_1 (fun n hl h v hv => by rcases List.mem_cons.mp hv with q | q; exact (by rw [q]; trivial); exact h v (by simp [q])) (fun C _ K => lv_i2b C.1 C.2.1 hd rfl K) kk
theorem w_i2f {x : Int32} (hd : decode (mi_b μ) pc = .ok (.i2f, 1)) (kk : Wp G μ k (pc + 1) l (.float (FP.i2f x) :: st) h) : Wp G μ k pc l (.int x :: st) h :=
  pm_1 (fun n hl h v hv => by rcases List.mem_cons.mp hv with q | q; exact (by rw [q]; trivial); exact h v (by simp [q])) (fun C _ K => lv_i2f C.1 C.2.1 hd K) kk
theorem w_f2i {x : UInt32} (hd : decode (mi_b μ) pc = .ok (.f2i, 1)) (kk : Wp G μ k (pc + 1) l (.int (FP.f2i x) :: st) h) : Wp G μ k pc l (.float x :: st) h :=
  pm_1 (fun n hl h v hv => by rcases List.mem_cons.mp hv with q | q; exact (by rw [q]; trivial); exact h v (by simp [q])) (fun C _ K => lv_f2i C.1 C.2.1 hd K) kk
theorem w_fadd {x y : UInt32} (hd : decode (mi_b μ) pc = .ok (.fadd, 1)) (hne : vf_n32 (FP.fadd x y)) (kk : Wp G μ k (pc + 1) l (.float (FP.fadd x y) :: st) h) : Wp G μ k pc l (.float y :: .float x :: st) h :=
  pm_1 (fun n hl h v hv => by rcases List.mem_cons.mp hv with q | q; exact (by rw [q]; trivial); exact h v (by simp [q])) (fun C _ K => lv_fadd C.1 C.2.1 hd hne K) kk
theorem w_fsub {x y : UInt32} (hd : decode (mi_b μ) pc = .ok (.fsub, 1)) (hne : vf_n32 (FP.fsub x y)) (kk : Wp G μ k (pc + 1) l (.float (FP.fsub x y) :: st) h) : Wp G μ k pc l (.float y :: .float x :: st) h :=
  pm_1 (fun n hl h v hv => by rcases List.mem_cons.mp hv with q | q; exact (by rw [q]; trivial); exact h v (by simp [q])) (fun C _ K => lv_fsub C.1 C.2.1 hd hne K) kk
theorem w_fmul {x y : UInt32} (hd : decode (mi_b μ) pc = .ok (.fmul, 1)) (hne : vf_n32 (FP.fmul x y)) (kk : Wp G μ k (pc + 1) l (.float (FP.fmul x y) :: st) h) : Wp G μ k pc l (.float y :: .float x :: st) h :=
  pm_1 (fun n hl h v hv => by rcases List.mem_cons.mp hv with q | q; exact (by rw [q]; trivial); exact h v (by simp [q])) (fun C _ K => lv_fmul C.1 C.2.1 hd hne K) kk
theorem w_fdiv {x y : UInt32} (hd : decode (mi_b μ) pc = .ok (.fdiv, 1)) (hne : vf_n32 (FP.fdiv x y)) (kk : Wp G μ k (pc + 1) l (.float (FP.fdiv x y) :: st) h) : Wp G μ k pc l (.float y :: .float x :: st) h :=
  pm_1 (fun n hl h v hv => by rcases List.mem_cons.mp hv with q | q; exact (by rw [q]; trivial); exact h v (by simp [q])) (fun C _ K => lv_fdiv C.1 C.2.1 hd hne K) kk
theorem w_fcmp {x y : UInt32} {op : CmpOp} (hd : decode (mi_b μ) pc = .ok (.fcmp op, 1)) (kk : Wp G μ k (pc + 1) l (.int (Op.cmpValue (FP.fcmp x y) op) :: st) h) : Wp G μ k pc l (.float y :: .float x :: st) h :=
  pm_1 (fun n hl h v hv => by rcases List.mem_cons.mp hv with q | q; exact (by rw [q]; trivial); exact h v (by simp [q])) (fun C _ K => lv_fcmp C.1 C.2.1 hd K) kk
theorem w_fconst0 (hd : decode (mi_b μ) pc = .ok (.fconst 0, 1)) (kk : Wp G μ k (pc + 1) l (.float FP.fconst0 :: st) h) : Wp G μ k pc l (st) h :=
  pm_1 (fun n hl h v hv => by rcases List.mem_cons.mp hv with q | q; exact (by rw [q]; trivial); exact h v (by simp [q])) (fun C _ K => lv_fconst0 C.1 C.2.1 hd K) kk
theorem w_fconst1 (hd : decode (mi_b μ) pc = .ok (.fconst 1, 1)) (kk : Wp G μ k (pc + 1) l (.float FP.fconst1 :: st) h) : Wp G μ k pc l (st) h :=
  pm_1 (fun n hl h v hv => by rcases List.mem_cons.mp hv with q | q; exact (by rw [q]; trivial); exact h v (by simp [q])) (fun C _ K => lv_fconst1 C.1 C.2.1 hd K) kk
theorem w_fconst2 (hd : decode (mi_b μ) pc = .ok (.fconst 2, 1)) (kk : Wp G μ k (pc + 1) l (.float FP.fconst2 :: st) h) : Wp G μ k pc l (st) h :=
  pm_1 (fun n hl h v hv => by rcases List.mem_cons.mp hv with q | q; exact (by rw [q]; trivial); exact h v (by simp [q])) (fun C _ K => lv_fconst2 C.1 C.2.1 hd K) kk
theorem w_iload_n {j : Fin 4} {x : Int32} (hd : decode (mi_b μ) pc = .ok (.iload_n j, 1)) (he : l[(j : Nat)]? = some (.int x)) (kk : Wp G μ k (pc + 1) l (.int x :: st) h) : Wp G μ k pc l st h :=
  pm_1 (fun n hl h v hv => by rcases List.mem_cons.mp hv with q | q; exact (by rw [q]; exact hl _ (List.mem_of_getElem? he)); exact h v q) (fun C L K => lv_iload_n C.1 C.2.1 hd rfl (L.2.2.2 _ _ he (by simp)) K) kk
theorem w_lload_n {j : Fin 4} {x : Int64} (hd : decode (mi_b μ) pc = .ok (.lload_n j, 1)) (he : l[(j : Nat)]? = some (.long x)) (kk : Wp G μ k (pc + 1) l (.long x :: st) h) : Wp G μ k pc l st h :=
  pm_1 (fun n hl h v hv => by rcases List.mem_cons.mp hv with q | q; exact (by rw [q]; exact hl _ (List.mem_of_getElem? he)); exact h v q) (fun C L K => lv_lload_n C.1 C.2.1 hd rfl (L.2.2.2 _ _ he (by simp)) K) kk
theorem w_fload_n {j : Fin 4} {x : UInt32} (hd : decode (mi_b μ) pc = .ok (.fload_n j, 1)) (he : l[(j : Nat)]? = some (.float x)) (kk : Wp G μ k (pc + 1) l (.float x :: st) h) : Wp G μ k pc l st h :=
  pm_1 (fun n hl h v hv => by rcases List.mem_cons.mp hv with q | q; exact (by rw [q]; exact hl _ (List.mem_of_getElem? he)); exact h v q) (fun C L K => lv_fload_n C.1 C.2.1 hd rfl (L.2.2.2 _ _ he (by simp)) K) kk
theorem w_iload {i : Nat} {x : Int32} (hd : decode (mi_b μ) pc = .ok (.iload i, 2)) (he : l[i]? = some (.int x)) (kk : Wp G μ k (pc + 2) l (.int x :: st) h) : Wp G μ k pc l st h :=
  pm_1 (fun n hl h v hv => by rcases List.mem_cons.mp hv with q | q; exact (by rw [q]; exact hl _ (List.mem_of_getElem? he)); exact h v q) (fun C L K => lv_iload C.1 C.2.1 hd (L.2.2.2 _ _ he (by simp)) K) kk
theorem w_lload {i : Nat} {x : Int64} (hd : decode (mi_b μ) pc = .ok (.lload i, 2)) (he : l[i]? = some (.long x)) (kk : Wp G μ k (pc + 2) l (.long x :: st) h) : Wp G μ k pc l st h :=
  pm_1 (fun n hl h v hv => by rcases List.mem_cons.mp hv with q | q; exact (by rw [q]; exact hl _ (List.mem_of_getElem? he)); exact h v q) (fun C L K => lv_lload C.1 C.2.1 hd (L.2.2.2 _ _ he (by simp)) K) kk
theorem w_fload {i : Nat} {x : UInt32} (hd : decode (mi_b μ) pc = .ok (.fload i, 2)) (he : l[i]? = some (.float x)) (kk : Wp G μ k (pc + 2) l (.float x :: st) h) : Wp G μ k pc l st h :=
  pm_1 (fun n hl h v hv => by rcases List.mem_cons.mp hv with q | q; exact (by rw [q]; exact hl _ (List.mem_of_getElem? he)); exact h v q) (fun C L K => lv_fload C.1 C.2.1 hd (L.2.2.2 _ _ he (by simp)) K) kk
theorem w_aload_n {j : Fin 4} {a : Nat} (hd : decode (mi_b μ) pc = .ok (.aload_n j, 1)) (he : l[(j : Nat)]? = some (.ref a)) (kk : Wp G μ k (pc + 1) l (.ref a :: st) h) : Wp G μ k pc l st h :=
  pm_1 (fun n hl h v hv => by rcases List.mem_cons.mp hv with q | q; exact (by rw [q]; exact hl _ (List.mem_of_getElem? he)); exact h v q) (fun {_ _ _ _ _ _ _ _ _ _ _ _ _ _ _ ad} C L K => by
    have h1 := L.2.2.2 _ _ he (by simp)
    simp only [List.map_cons, pm_vm] at h1 K
    cases hz : ad a with
    | none => rw [hz] at h1 K; exact lv_aload_nN C.1 C.2.1 hd rfl h1 K
    | some q => rw [hz] at h1 K; exact lv_aload_n C.1 C.2.1 hd rfl h1 K) kk
theorem w_aload {i : Nat} {a : Nat} (hd : decode (mi_b μ) pc = .ok (.aload i, 2)) (he : l[i]? = some (.ref a)) (kk : Wp G μ k (pc + 2) l (.ref a :: st) h) : Wp G μ k pc l st h :=
  pm_1 (fun n hl h v hv => by rcases List.mem_cons.mp hv with q | q; exact (by rw [q]; exact hl _ (List.mem_of_getElem? he)); exact h v q) (fun {_ _ _ _ _ _ _ _ _ _ _ _ _ _ _ ad} C L K => by
    have h1 := L.2.2.2 _ _ he (by simp)
    simp only [List.map_cons, pm_vm] at h1 K
    cases hz : ad a with
    | none => rw [hz] at h1 K; exact lv_aloadN C.1 C.2.1 hd h1 K
    | some q => rw [hz] at h1 K; exact lv_aload C.1 C.2.1 hd h1 K) kk
theorem w_iconst {n : Int} {v : Int32} (hd : decode (mi_b μ) pc = .ok (.iconst n, 1)) (hv : Int32.ofInt n = v) (kk : Wp G μ k (pc + 1) l (.int v :: st) h) : Wp G μ k pc l st h :=
  pm_1 (fun n hl h v hv => by rcases List.mem_cons.mp hv with q | q; exact (by rw [q]; trivial); exact h v (by simp [q])) (fun C _ K => lv_iconst C.1 C.2.1 hd hv K) kk
theorem w_bipush {n : Int} {v : Int32} (hd : decode (mi_b μ) pc = .ok (.bipush n, 2)) (hv : (Int8.ofInt n).toInt32 = v) (kk : Wp G μ k (pc + 2) l (.int v :: st) h) : Wp G μ k pc l st h :=
  pm_1 (fun n hl h v hv => by rcases List.mem_cons.mp hv with q | q; exact (by rw [q]; trivial); exact h v (by simp [q])) (fun C _ K => lv_bipush C.1 C.2.1 hd hv K) kk
theorem w_sipush {n : Int} {v : Int32} (hd : decode (mi_b μ) pc = .ok (.sipush n, 3)) (hv : (Int16.ofInt n).toInt32 = v) (kk : Wp G μ k (pc + 3) l (.int v :: st) h) : Wp G μ k pc l st h :=
  pm_1 (fun n hl h v hv => by rcases List.mem_cons.mp hv with q | q; exact (by rw [q]; trivial); exact h v (by simp [q])) (fun C _ K => lv_sipush C.1 C.2.1 hd hv K) kk
theorem w_lconst {n : Fin 2} {v : Int64} (hd : decode (mi_b μ) pc = .ok (.lconst n, 1)) (hv : Int64.ofNat n = v) (kk : Wp G μ k (pc + 1) l (.long v :: st) h) : Wp G μ k pc l st h :=
  pm_1 (fun n hl h v hv => by rcases List.mem_cons.mp hv with q | q; exact (by rw [q]; trivial); exact h v (by simp [q])) (fun C _ K => lv_lconst C.1 C.2.1 hd hv K) kk
theorem w_ldc_i {j : Nat} {v : Int32} (hd : decode (mi_b μ) pc = .ok (.ldc j, 2)) (hc : Cond.constant (mi_o μ) j v ∈ gw) (kk : Wp G μ k (pc + 2) l (.int v :: st) h) : Wp G μ k pc l st h :=
  pm_1 (fun n hl h v hv => by rcases List.mem_cons.mp hv with q | q; exact (by rw [q]; trivial); exact h v (by simp [q])) (fun C _ K => lv_ldc C.1 C.2.1 C.2.2.2.1 (C.2.2.2.2.1 _ hc) hd K) kk
theorem w_ldcw_i {j : Nat} {v : Int32} (hd : decode (mi_b μ) pc = .ok (.ldc_w j, 3)) (hc : Cond.constant (mi_o μ) j v ∈ gw) (kk : Wp G μ k (pc + 3) l (.int v :: st) h) : Wp G μ k pc l st h :=
  pm_1 (fun n hl h v hv => by rcases List.mem_cons.mp hv with q | q; exact (by rw [q]; trivial); exact h v (by simp [q])) (fun C _ K => lv_ldcw C.1 C.2.1 C.2.2.2.1 (C.2.2.2.2.1 _ hc) hd K) kk
theorem w_ldc_f {j : Nat} {v : UInt32} (hd : decode (mi_b μ) pc = .ok (.ldc j, 2)) (hc : Cond.constantFloat (mi_o μ) j v ∈ gw) (kk : Wp G μ k (pc + 2) l (.float v :: st) h) : Wp G μ k pc l st h :=
  pm_1 (fun n hl h v hv => by rcases List.mem_cons.mp hv with q | q; exact (by rw [q]; trivial); exact h v (by simp [q])) (fun C _ K => lv_ldcf C.1 C.2.1 C.2.2.2.1 (C.2.2.2.2.1 _ hc) hd K) kk
theorem w_ldc2 {j : Nat} {v : Int64} (hd : decode (mi_b μ) pc = .ok (.ldc2_w j, 3)) (hc : Cond.constantLong (mi_o μ) j v ∈ gw) (kk : Wp G μ k (pc + 3) l (.long v :: st) h) : Wp G μ k pc l st h :=
  pm_1 (fun n hl h v hv => by rcases List.mem_cons.mp hv with q | q; exact (by rw [q]; trivial); exact h v (by simp [q])) (fun C _ K => lv_ldc2 C.1 C.2.1 C.2.2.2.1 (C.2.2.2.2.1 _ hc) hd K) kk
theorem w_pop {v : Value} (hd : decode (mi_b μ) pc = .ok (.pop, 1)) (hv : v.category = 1) (kk : Wp G μ k (pc + 1) l st h) : Wp G μ k pc l (v :: st) h :=
  pm_1 (fun n hl h w hw => h w (List.mem_cons_of_mem _ hw)) (fun C _ K => lv_pop C.1 C.2.1 hd (by rw [pm_vm_cat]; exact hv) K) kk
theorem w_dup {v : Value} (hd : decode (mi_b μ) pc = .ok (.dup, 1)) (hv : v.category = 1) (kk : Wp G μ k (pc + 1) l (v :: v :: st) h) : Wp G μ k pc l (v :: st) h :=
  pm_1 (fun n hl h w hw => by rcases List.mem_cons.mp hw with q | q; exact (by rw [q]; exact h _ List.mem_cons_self); exact h w q) (fun C _ K => lv_dup C.1 C.2.1 hd (by rw [pm_vm_cat]; exact hv) K) kk
theorem w_dup2 {v w : Value} (hd : decode (mi_b μ) pc = .ok (.dup2, 1)) (hv : v.category = 1) (hw : w.category = 1) (kk : Wp G μ k (pc + 1) l (v :: w :: v :: w :: st) h) : Wp G μ k pc l (v :: w :: st) h :=
  pm_1 (fun n hl h x hx => by
    rcases List.mem_cons.mp hx with q | q
    · rw [q]; exact h _ List.mem_cons_self
    · rcases List.mem_cons.mp q with q | q
      · rw [q]; exact h _ (by simp)
      · exact h x q) (fun C _ K => lv_dup2_11 C.1 C.2.1 hd (by rw [pm_vm_cat]; exact hv) (by rw [pm_vm_cat]; exact hw) K) kk
theorem w_goto {off : Int} {tgt : Nat} (hd : decode (mi_b μ) pc = .ok (.goto off, 3)) (ht : (pc : Int) + off = (tgt : Int)) (kk : Wp G μ k tgt l st h) : Wp G μ k pc l st h :=
  pm_1 (fun n hl h => h) (fun C _ K => lv_goto C.1 C.2.1 hd ht K) kk
theorem w_if_eq {x : Int32} {off : Int} {tgt : Nat} (hd : decode (mi_b μ) pc = .ok (.ifCond .eq off, 3)) (ht : (pc : Int) + off = (tgt : Int)) (kt : x = 0 → Wp G μ k tgt l st h) (kf : ¬ x = 0 → Wp G μ k (pc + 3) l st h) : Wp G μ k pc l (.int x :: st) h :=
  pm_2 (fun n h w hw => h w (List.mem_cons_of_mem _ hw)) (fun C _ _ K1 K2 => lv_if_eq C.1 C.2.1 hd ht K1 K2) kt kf
theorem w_if_ne {x : Int32} {off : Int} {tgt : Nat} (hd : decode (mi_b μ) pc = .ok (.ifCond .ne off, 3)) (ht : (pc : Int) + off = (tgt : Int)) (kt : ¬ x = 0 → Wp G μ k tgt l st h) (kf : x = 0 → Wp G μ k (pc + 3) l st h) : Wp G μ k pc l (.int x :: st) h :=
  pm_2 (fun n h w hw => h w (List.mem_cons_of_mem _ hw)) (fun C _ _ K1 K2 => lv_if_ne C.1 C.2.1 hd ht K1 K2) kt kf
theorem w_if_lt {x : Int32} {off : Int} {tgt : Nat} (hd : decode (mi_b μ) pc = .ok (.ifCond .lt off, 3)) (ht : (pc : Int) + off = (tgt : Int)) (kt : x < 0 → Wp G μ k tgt l st h) (kf : ¬ x < 0 → Wp G μ k (pc + 3) l st h) : Wp G μ k pc l (.int x :: st) h :=
  pm_2 (fun n h w hw => h w (List.mem_cons_of_mem _ hw)) (fun C _ _ K1 K2 => lv_if_lt C.1 C.2.1 hd ht K1 K2) kt kf
theorem w_if_ge {x : Int32} {off : Int} {tgt : Nat} (hd : decode (mi_b μ) pc = .ok (.ifCond .ge off, 3)) (ht : (pc : Int) + off = (tgt : Int)) (kt : 0 ≤ x → Wp G μ k tgt l st h) (kf : ¬ 0 ≤ x → Wp G μ k (pc + 3) l st h) : Wp G μ k pc l (.int x :: st) h :=
  pm_2 (fun n h w hw => h w (List.mem_cons_of_mem _ hw)) (fun C _ _ K1 K2 => lv_if_ge C.1 C.2.1 hd ht K1 K2) kt kf
theorem w_if_gt {x : Int32} {off : Int} {tgt : Nat} (hd : decode (mi_b μ) pc = .ok (.ifCond .gt off, 3)) (ht : (pc : Int) + off = (tgt : Int)) (kt : 0 < x → Wp G μ k tgt l st h) (kf : ¬ 0 < x → Wp G μ k (pc + 3) l st h) : Wp G μ k pc l (.int x :: st) h :=
  pm_2 (fun n h w hw => h w (List.mem_cons_of_mem _ hw)) (fun C _ _ K1 K2 => lv_if_gt C.1 C.2.1 hd ht K1 K2) kt kf
theorem w_if_le {x : Int32} {off : Int} {tgt : Nat} (hd : decode (mi_b μ) pc = .ok (.ifCond .le off, 3)) (ht : (pc : Int) + off = (tgt : Int)) (kt : x ≤ 0 → Wp G μ k tgt l st h) (kf : ¬ x ≤ 0 → Wp G μ k (pc + 3) l st h) : Wp G μ k pc l (.int x :: st) h :=
  pm_2 (fun n h w hw => h w (List.mem_cons_of_mem _ hw)) (fun C _ _ K1 K2 => lv_if_le C.1 C.2.1 hd ht K1 K2) kt kf
theorem w_ic_eq {x y : Int32} {off : Int} {tgt : Nat} (hd : decode (mi_b μ) pc = .ok (.if_icmp .eq off, 3)) (ht : (pc : Int) + off = (tgt : Int)) (kt : x = y → Wp G μ k tgt l st h) (kf : ¬ x = y → Wp G μ k (pc + 3) l st h) : Wp G μ k pc l (.int y :: .int x :: st) h :=
  pm_2 (fun n h w hw => h w (by simp [hw])) (fun C _ _ K1 K2 => lv_icmp_eq C.1 C.2.1 hd ht K1 K2) kt kf
theorem w_ic_ne {x y : Int32} {off : Int} {tgt : Nat} (hd : decode (mi_b μ) pc = .ok (.if_icmp .ne off, 3)) (ht : (pc : Int) + off = (tgt : Int)) (kt : ¬ x = y → Wp G μ k tgt l st h) (kf : x = y → Wp G μ k (pc + 3) l st h) : Wp G μ k pc l (.int y :: .int x :: st) h :=
  pm_2 (fun n h w hw => h w (by simp [hw])) (fun C _ _ K1 K2 => lv_icmp_ne C.1 C.2.1 hd ht K1 K2) kt kf
theorem w_ic_lt {x y : Int32} {off : Int} {tgt : Nat} (hd : decode (mi_b μ) pc = .ok (.if_icmp .lt off, 3)) (ht : (pc : Int) + off = (tgt : Int)) (kt : x < y → Wp G μ k tgt l st h) (kf : ¬ x < y → Wp G μ k (pc + 3) l st h) : Wp G μ k pc l (.int y :: .int x :: st) h :=
  pm_2 (fun n h w hw => h w (by simp [hw])) (fun C _ _ K1 K2 => lv_icmp_lt C.1 C.2.1 hd ht K1 K2) kt kf
theorem w_ic_ge {x y : Int32} {off : Int} {tgt : Nat} (hd : decode (mi_b μ) pc = .ok (.if_icmp .ge off, 3)) (ht : (pc : Int) + off = (tgt : Int)) (kt : y ≤ x → Wp G μ k tgt l st h) (kf : ¬ y ≤ x → Wp G μ k (pc + 3) l st h) : Wp G μ k pc l (.int y :: .int x :: st) h :=
  pm_2 (fun n h w hw => h w (by simp [hw])) (fun C _ _ K1 K2 => lv_icmp_ge C.1 C.2.1 hd ht K1 K2) kt kf
theorem w_ic_gt {x y : Int32} {off : Int} {tgt : Nat} (hd : decode (mi_b μ) pc = .ok (.if_icmp .gt off, 3)) (ht : (pc : Int) + off = (tgt : Int)) (kt : y < x → Wp G μ k tgt l st h) (kf : ¬ y < x → Wp G μ k (pc + 3) l st h) : Wp G μ k pc l (.int y :: .int x :: st) h :=
  pm_2 (fun n h w hw => h w (by simp [hw])) (fun C _ _ K1 K2 => lv_icmp_gt C.1 C.2.1 hd ht K1 K2) kt kf
theorem w_ic_le {x y : Int32} {off : Int} {tgt : Nat} (hd : decode (mi_b μ) pc = .ok (.if_icmp .le off, 3)) (ht : (pc : Int) + off = (tgt : Int)) (kt : x ≤ y → Wp G μ k tgt l st h) (kf : ¬ x ≤ y → Wp G μ k (pc + 3) l st h) : Wp G μ k pc l (.int y :: .int x :: st) h :=
  pm_2 (fun n h w hw => h w (by simp [hw])) (fun C _ _ K1 K2 => lv_icmp_le C.1 C.2.1 hd ht K1 K2) kt kf
theorem w_tsw {x : Int32} {df lo hi : Int} {offs : Array Int} {len tgt : Nat} (hd : decode (mi_b μ) pc = .ok (.tableswitch df lo hi offs, len)) (ht : (pc : Int) + (if x.toInt < lo ∨ hi < x.toInt then df else offs.getD (x.toInt - lo).toNat 0) = (tgt : Int)) (hs : x.toInt < lo ∨ hi < x.toInt ∨ (x.toInt - lo).toNat < offs.size) (kk : Wp G μ k tgt l st h) : Wp G μ k pc l (.int x :: st) h :=
  pm_1 (fun n hl h w hw => h w (List.mem_cons_of_mem _ hw)) (fun C _ K => by
    by_cases h1 : x.toInt < lo ∨ hi < x.toInt
    · rw [if_pos h1] at ht
      exact lv_tableOut C.1 C.2.1 hd h1 ht K
    · rw [if_neg h1] at ht
      have h3 : (x.toInt - lo).toNat < offs.size := by
        rcases hs with q | q | q
        · exact absurd (Or.inl q) h1
        · exact absurd (Or.inr q) h1
        · exact q
      refine lv_tableIn C.1 C.2.1 hd (fun q => h1 (Or.inl q)) (fun q => h1 (Or.inr q)) (off := offs.getD (x.toInt - lo).toNat 0) ?_ ht K
      simp [Array.getD, h3]) kk
theorem w_lsw {x : Int32} {df : Int} {ps : Array (Int × Int)} {len tgt : Nat} (hd : decode (mi_b μ) pc = .ok (.lookupswitch df ps, len)) (hp : (ps.toList.zip (ps.toList.drop 1)).all (fun (a, next) => a.1 < next.1) = true) (ht : (pc : Int) + Op.lookupswitch.offset ps.toList df x.toInt = (tgt : Int)) (kk : Wp G μ k tgt l st h) : Wp G μ k pc l (.int x :: st) h :=
  pm_1 (fun n hl h w hw => h w (List.mem_cons_of_mem _ hw)) (fun C _ K => lv_lookup C.1 C.2.1 hd hp rfl ht K) kk
end PMR
