/-! BODIES THAT MAY THROW: a row an instruction; px says what holds where it throws -/
def nse : String := "java/util/NoSuchElementException"
def pm_XC (G : pm_G) (ad : pm_AD) (n : Nat) (px : pm_H → Prop) : String → State → State → Prop :=
  vx_X (S := pm_AD × pm_H) (fun u => px u.2 ∧ n ≤ u.2.1.length ∧ pm_Ext n u.2.1.length ad u.1) (fun E u t => E = nse ∧ pm_S G u.1 u.2 t.heap) (pm_A G)
def WpX (G : pm_G) (px : pm_H → Prop) (μ : pm_M) (k : Nat × Nat) (pc : Nat) (l st : List Value) (h : pm_H) : Prop :=
  ∀ (ad0 : pm_AD) (n0 : Nat) (ad : pm_AD) (p : Program) (e : Env) (s : State) (m : MethodId) (args : Array Value) (below : List Frame) (meth : Method) (c : Code) (H : Heap) (ls : Array Slot) (locs : List Loc),
    pm_Cx G μ.1 p s m args meth c → (∀ x ∈ c.exceptionTable.toList, False) → n0 ≤ h.1.length → pm_Ext n0 h.1.length ad0 ad → pm_S G ad h H → va_S (pm_A G) s.heap H locs → pm_L ad ls μ.1.2.2.1 l → (∀ v ∈ l, pm_ok h.1.length v) → (∀ v ∈ st, pm_ok h.1.length v) →
    W p (gl G) e (pm_rm μ.2.1 μ.2.2.1 μ.2.2.2.1) s m args below meth c H locs k.1 k.2 (vx_MQ below (pm_Q G ad0 n0 μ.2.2.2.2) (pm_XC G ad0 n0 px) args s μ.2.2.1 μ.2.2.2.1 (pm_A G)) (F0 m pc ls (st.map (pm_vm ad)))
theorem pmX_1 {G : pm_G} {px : pm_H → Prop} {μ : pm_M} {k : Nat × Nat} {pc pc' : Nat} {l st st' : List Value} {h : pm_H} (hok : ∀ n, (∀ v ∈ l, pm_ok n v) → (∀ v ∈ st, pm_ok n v) → ∀ v ∈ st', pm_ok n v)
    (step : ∀ {p : Program} {e : Env} {R : Room} {s : State} {m : MethodId} {args : Array Value} {below : List Frame} {meth : Method} {c : Code} {H : Heap} {ls : Array Slot} {locs : List Loc} {cells slots : Nat} {Q : State → Prop} {ad : pm_AD}, pm_Cx G μ.1 p s m args meth c → pm_L ad ls μ.1.2.2.1 l →
      W p (gl G) e R s m args below meth c H locs cells slots Q (F0 m pc' ls (st'.map (pm_vm ad))) → W p (gl G) e R s m args below meth c H locs cells slots Q (F0 m pc ls (st.map (pm_vm ad))))
    (kk : WpX G px μ k pc' l st' h) : WpX G px μ k pc l st h := by
  intro ad0 n0 ad p e s m args below meth c H ls locs hC hxt hn hE hS hSS hL hl hst
  exact step hC hL (kk ad0 n0 ad p e s m args below meth c H ls locs hC hxt hn hE hS hSS hL hl (hok _ hl hst))
theorem pmX_2 {G : pm_G} {px : pm_H → Prop} {μ : pm_M} {k : Nat × Nat} {pc pc1 pc2 : Nat} {l st st' : List Value} {h : pm_H} {C D : Prop} (hok : ∀ n, (∀ v ∈ st, pm_ok n v) → ∀ v ∈ st', pm_ok n v)
    (step : ∀ {p : Program} {e : Env} {R : Room} {s : State} {m : MethodId} {args : Array Value} {below : List Frame} {meth : Method} {c : Code} {H : Heap} {ls : Array Slot} {locs : List Loc} {cells slots : Nat} {Q : State → Prop} {ad : pm_AD} {n : Nat}, pm_Cx G μ.1 p s m args meth c → pm_ad G n ad → (∀ v ∈ st, pm_ok n v) →
      (C → W p (gl G) e R s m args below meth c H locs cells slots Q (F0 m pc1 ls (st'.map (pm_vm ad)))) → (D → W p (gl G) e R s m args below meth c H locs cells slots Q (F0 m pc2 ls (st'.map (pm_vm ad)))) → W p (gl G) e R s m args below meth c H locs cells slots Q (F0 m pc ls (st.map (pm_vm ad))))
    (k1 : C → WpX G px μ k pc1 l st' h) (k2 : D → WpX G px μ k pc2 l st' h) : WpX G px μ k pc l st h := by
  intro ad0 n0 ad p e s m args below meth c H ls locs hC hxt hn hE hS hSS hL hl hst
  exact step hC hS.2.2.1 hst (fun q => k1 q ad0 n0 ad p e s m args below meth c H ls locs hC hxt hn hE hS hSS hL hl (hok _ hst)) (fun q => k2 q ad0 n0 ad p e s m args below meth c H ls locs hC hxt hn hE hS hSS hL hl (hok _ hst))
section PXR
variable {G : pm_G} {px : pm_H → Prop} {μ : pm_M} {k : Nat × Nat} {pc : Nat} {l l' st : List Value} {h : pm_H}
theorem wx_aload_n {j : Fin 4} {a : Nat} (hd : decode (mi_b μ) pc = .ok (.aload_n j, 1)) (he : l[(j : Nat)]? = some (.ref a)) (kk : WpX G px μ k (pc + 1) l (.ref a :: st) h) : WpX G px μ k pc l st h :=
  pmX_1 (fun n hl h v hv => by rcases List.mem_cons.mp hv with q | q; exact (by rw [q]; exact hl _ (List.mem_of_getElem? he)); exact h v q) (fun {_ _ _ _ _ _ _ _ _ _ _ _ _ _ _ ad} C L K => by
    have h1 := L.2.2.2 _ _ he (by simp)
    simp only [List.map_cons, pm_vm] at h1 K
    cases hz : ad a with
    | none => rw [hz] at h1 K; exact lv_aload_nN C.1 C.2.1 hd rfl h1 K
    | some q => rw [hz] at h1 K; exact lv_aload_n C.1 C.2.1 hd rfl h1 K) kk
theorem wx_iload_n {j : Fin 4} {x : Int32} (hd : decode (mi_b μ) pc = .ok (.iload_n j, 1)) (he : l[(j : Nat)]? = some (.int x)) (kk : WpX G px μ k (pc + 1) l (.int x :: st) h) : WpX G px μ k pc l st h :=
  pmX_1 (fun n hl h v hv => by rcases List.mem_cons.mp hv with q | q; exact (by rw [q]; exact hl _ (List.mem_of_getElem? he)); exact h v q) (fun C L K => lv_iload_n C.1 C.2.1 hd rfl (L.2.2.2 _ _ he (by simp)) K) kk
theorem wx_if_eq {x : Int32} {off : Int} {tgt : Nat} (hd : decode (mi_b μ) pc = .ok (.ifCond .eq off, 3)) (ht : (pc : Int) + off = (tgt : Int)) (kt : x = 0 → WpX G px μ k tgt l st h) (kf : ¬ x = 0 → WpX G px μ k (pc + 3) l st h) : WpX G px μ k pc l (.int x :: st) h :=
  pmX_2 (fun n h w hw => h w (List.mem_cons_of_mem _ hw)) (fun C _ _ K1 K2 => lv_if_eq C.1 C.2.1 hd ht K1 K2) kt kf
theorem wx_if_lt {x : Int32} {off : Int} {tgt : Nat} (hd : decode (mi_b μ) pc = .ok (.ifCond .lt off, 3)) (ht : (pc : Int) + off = (tgt : Int)) (kt : x < 0 → WpX G px μ k tgt l st h) (kf : ¬ x < 0 → WpX G px μ k (pc + 3) l st h) : WpX G px μ k pc l (.int x :: st) h :=
  pmX_2 (fun n h w hw => h w (List.mem_cons_of_mem _ hw)) (fun C _ _ K1 K2 => lv_if_lt C.1 C.2.1 hd ht K1 K2) kt kf
theorem wx_ic_ge {x y : Int32} {off : Int} {tgt : Nat} (hd : decode (mi_b μ) pc = .ok (.if_icmp .ge off, 3)) (ht : (pc : Int) + off = (tgt : Int)) (kt : y ≤ x → WpX G px μ k tgt l st h) (kf : ¬ y ≤ x → WpX G px μ k (pc + 3) l st h) : WpX G px μ k pc l (.int y :: .int x :: st) h :=
  pmX_2 (fun n h w hw => h w (by simp [hw])) (fun C _ _ K1 K2 => lv_icmp_ge C.1 C.2.1 hd ht K1 K2) kt kf
theorem wx_ic_ne {x y : Int32} {off : Int} {tgt : Nat} (hd : decode (mi_b μ) pc = .ok (.if_icmp .ne off, 3)) (ht : (pc : Int) + off = (tgt : Int)) (kt : ¬ x = y → WpX G px μ k tgt l st h) (kf : x = y → WpX G px μ k (pc + 3) l st h) : WpX G px μ k pc l (.int y :: .int x :: st) h :=
  pmX_2 (fun n h w hw => h w (by simp [hw])) (fun C _ _ K1 K2 => lv_icmp_ne C.1 C.2.1 hd ht K1 K2) kt kf
theorem wx_get {a ci q c idx : Nat} (hd : decode (mi_b μ) pc = .ok (.getfield idx, 3)) (hlk : pm_lk (mi_o μ) idx ci q) (hk : h.1[a]? = some (0, ci)) (hc : (pm_ft ci)[q]? = some c) (kk : WpX G px μ k (pc + 3) l (pm_fw h a c q :: st) h) : WpX G px μ k pc l (.ref a :: st) h := by
  intro ad0 n0 ad p e s m args below meth c0 H ls locs hC hxt hn0 hE hS hSS hL hl hst
  obtain ⟨C, T, N, hcl, hq, hl2⟩ := hlk
  obtain ⟨ty, -, hin, -, -, -, -, -⟩ := pm_call hcl
  obtain ⟨r, hr, hw⟩ := pm_cell hS (pm_lt hk)
  rw [pm_en_obj hk] at hw
  have hv := pm_fs_at (ad := ad) (h := h) (a := a) hc
  have K := kk ad0 n0 ad p e s m args below meth c0 H ls locs hC hxt hn0 hE hS hSS hL hl (fun v hv => by
    rcases List.mem_cons.mp hv with z | z
    · rw [z]
      unfold pm_fw
      split
      · trivial
      · exact hS.2.2.2 a q
      · trivial
    · exact pm_tl hst v z)
  rw [List.map_cons, pm_fw_vm] at K
  have ht := hC.2.2.2.2.2.2.2.2
  have e1 : pm_vm ad (.ref a) = .ref r := by simp [pm_vm, hr, va_rf]
  rw [List.map_cons, e1]
  rcases hl2 with hl2 | ⟨host, hl2⟩
  · exact va_get hC.1 hC.2.1 hC.2.2.2.2.1 hin hC.2.2.2.1 ht.1 hS.1 a hw hcl q hq (hC.2.2.2.2.1 _ hl2) (fun _ z => z) hv hd K
  · exact va_getN hC.1 hC.2.1 hC.2.2.2.2.1 hin hC.2.2.2.1 ht.1 hS.1 a hw hcl q hq ((ht.2.2.2.1 _ hl2).use rfl) (fun _ z => z) hv hd K
theorem wx_geti {a ci q idx : Nat} (hd : decode (mi_b μ) pc = .ok (.getfield idx, 3)) (hlk : pm_lk (mi_o μ) idx ci q) (hk : h.1[a]? = some (0, ci)) (hc : (pm_ft ci)[q]? = some 0) (kk : WpX G px μ k (pc + 3) l (.int (gi h a q) :: st) h) : WpX G px μ k pc l (.ref a :: st) h := wx_get hd hlk hk hc kk
theorem wx_getp {a ci q idx : Nat} (hd : decode (mi_b μ) pc = .ok (.getfield idx, 3)) (hlk : pm_lk (mi_o μ) idx ci q) (hk : h.1[a]? = some (0, ci)) (hc : (pm_ft ci)[q]? = some 2) (kk : WpX G px μ k (pc + 3) l (.ref (gp h a q) :: st) h) : WpX G px μ k pc l (.ref a :: st) h := wx_get hd hlk hk hc kk
theorem pmX_back {mc' ms' : Nat} {post : pm_PT} {p : Program} {e : Env} {s : State} {m : MethodId} {args a : Array Value} {below : List Frame} {meth : Method} {c : Code} {H : Heap} {ls : Array Slot} {locs : List Loc} {ad0 ad : pm_AD} {n0 : Nat} {st0 : List Value}
    (hC : pm_Cx G μ.1 p s m args meth c) (hxt : ∀ x ∈ c.exceptionTable.toList, False) (hn0 : n0 ≤ h.1.length) (hE : pm_Ext n0 h.1.length ad0 ad) (hSS : va_S (pm_A G) s.heap H locs) (hL : pm_L ad ls μ.1.2.2.1 l) (hl : ∀ v ∈ l, pm_ok h.1.length v) (hst : ∀ v ∈ st, pm_ok h.1.length v)
    (hr : va_Run p (gl G) e (pm_rm μ.2.1 μ.2.2.1 μ.2.2.2.1) s m args below meth c H locs k.1 k.2 mc' ms' (F0 m pc ls st0) (st.map (pm_vm ad)) (pm_Q G ad h.1.length post a) (pm_A G))
    (kk : ∀ v h', post v h' → WpX G px μ (k.1 + mc', k.2 + ms') (pc + 3) l (v.toList ++ st) h') :
    W p (gl G) e (pm_rm μ.2.1 μ.2.2.1 μ.2.2.2.1) s m args below meth c H locs k.1 k.2 (vx_MQ below (pm_Q G ad0 n0 μ.2.2.2.2) (pm_XC G ad0 n0 px) args s μ.2.2.1 μ.2.2.2.1 (pm_A G)) (F0 m pc ls st0) := by
  refine pm_cont hr hSS fun v ad' h' H1 locs1 hp hn hE' hok hS' hSS' => ?_
  have h10 := hS'.2.2.1.2.2
  have K := kk v h' hp ad0 n0 ad' p e s m args below meth c H1 ls locs1 hC hxt (Nat.le_trans hn0 hn) (hE.trans hE' hn0 hn) hS' hSS' (pm_L_ext hE' h10 hl hL) (fun v hv => (hl v hv).le hn) (fun w hw => by
    rcases List.mem_append.mp hw with q | q
    · cases v with
      | none => cases q
      | some x => simp at q; rw [q]; exact hok x rfl
    · exact (hst w q).le hn)
  rw [List.map_append, pm_map_ext hE' h10 hst] at K
  cases v with
  | none => exact K
  | some x => exact K
variable {mi : pm_I} {d mc ms n idx b : Nat} {As stk : List Value} {post : pm_PT}
theorem wx_callV {ci : Nat} (hd : decode (mi_b μ) pc = .ok (.invokevirtual idx, 3)) (hm : pm_mt mi n) (hl : Cond.methodLink (mi_o μ) idx mi.1 ∈ gw) (hi : Cond.instanceMethod mi.1 ∈ gw) (hsel : Cond.selects mi.1.cls mi.1 mi.1 ∈ gw)
    (hs : stk = As.reverse ++ .ref b :: st) (hk : h.1[b]? = some (0, ci)) (hcn : pm_cn ci = mi.1.cls) (hn : As.length = n) (hr : (st.map (fun v => v.category)).sum ≤ 8) (hdd : d + 1 ≤ μ.2.1) (hmc : k.1 + mc ≤ μ.2.2.1 ∧ k.2 + ms ≤ μ.2.2.2.1)
    (hc : Ct G d mi mc ms (.ref b :: As) h post) (kk : ∀ v h', post v h' → WpX G px μ (k.1 + mc, k.2 + ms) (pc + 3) l (v.toList ++ st) h') : WpX G px μ k pc l stk h := by
  intro ad0 n0 ad p e s m args below meth c0 H ls locs hC hxt hn0 hE hS hSS hL hl0 hst
  subst hs
  have hT := hC.2.2.2.2.2.2.2.2
  have hM := hc (fun v hv => by
    rcases List.mem_cons.mp hv with q | q
    · rw [q]; exact hst _ (by simp)
    · exact hst _ (by simp [q])) ad
  obtain ⟨r, hr1, hw⟩ := pm_cell hS (pm_lt hk)
  rw [pm_en_obj hk] at hw
  have e1 : pm_vm ad (.ref b) = .ref r := by simp [pm_vm, hr1, va_rf]
  obtain ⟨q, hq⟩ : ∃ q, vwCl[ci]? = some q := by
    cases hz : vwCl[ci]? with
    | some q => exact ⟨q, rfl⟩
    | none =>
      obtain ⟨r', h1, -⟩ := hS.1 b _ hw
      dsimp only at h1
      rw [hz] at h1
      cases h1
  have hq1 : q.1 = mi.1.cls := by rw [← hcn]; simp [pm_cn, hq]
  have hrec := va_recv hT.1 hS.1 hq hw
  rw [hq1] at hrec
  have hG : GoodIn gw (wsV (mi_o μ) idx mi.1.cls mi.1 (pm_wsO mi)) := gw_in fun w hw => by
    rcases List.mem_append.mp (show w ∈ [Cond.methodLink (mi_o μ) idx mi.1, .instanceMethod mi.1, .selects mi.1.cls mi.1 mi.1, .initialized mi.1.cls] ++ pm_wsO mi from hw) with z | z
    · simp only [List.mem_cons, List.not_mem_nil, or_false] at z
      rcases z with z | z | z | z <;> rw [z]
      · exact hl
      · exact hi
      · exact hsel
      · exact hm.2.1
    · exact pm_wsO_in hm w z
  have cw := cwV (R := pm_rm μ.2.1 μ.2.2.1 μ.2.2.2.1) (rm := pm_rm d mc ms) n hC.2.2.2.2.1 hG rfl rfl rfl ⟨rfl, hm.2.2.1, hm.2.2.2.1, hm.2.2.2.2.1⟩ ⟨hdd, by show 8 + (mi.2.2.1 + 11) + 64 * d ≤ 64 * μ.2.1; have := hm.2.2.2.2.2; omega⟩
  rw [List.map_append, List.map_cons, List.map_reverse, e1]
  rw [List.map_cons, e1] at hM
  exact pmX_back hC hxt hn0 hE hSS hL hl0 (fun v hv => hst v (by simp [hv])) (va_runV (own := mi_o μ) ⟨hC.1, hC.2.1, hC.2.2.1, hC.2.2.2.1, hC.2.2.2.2.1⟩ hM cw ⟨pm_blind, hrec, fun U hU hW => pm_pre hS hT hSS hU hW⟩ rfl (by rw [List.length_map]; exact hn) hL.1 rfl (lv_room (pm_cat hr)) hd hmc) kk
theorem wx_drop (hd : pm_dr l' l) (kk : WpX G px μ k pc l' st h) : WpX G px μ k pc l st h := by
  obtain ⟨h1, h2⟩ := pm_dr_at hd
  intro ad0 n0 ad p e s m args below meth c H ls locs hC hxt hn0 hE hS hSS hL hl hst
  refine kk ad0 n0 ad p e s m args below meth c H ls locs hC hxt hn0 hE hS hSS ⟨hL.1, hL.2.1, h1.trans hL.2.2.1, fun i v hi hv => hL.2.2.2 i v (h2 i v hi hv) hv⟩ (fun v hv => ?_) hst
  by_cases hn : v = .null
  · rw [hn]; trivial
  · obtain ⟨i, hi⟩ := List.getElem?_of_mem hv
    exact hl v (List.mem_of_getElem? (h2 i v hi hn))
theorem wx_ireturn {x : Int32} {ty : FieldType} (hd : decode (mi_b μ) pc = .ok (.ireturn, 1)) (hr : μ.1.2.2.2 = some ty) (hn : narrow ty (.int x) = .int x) (hk : k.1 ≤ μ.2.2.1 ∧ k.2 ≤ μ.2.2.2.1) (hp : μ.2.2.2.2 (some (.int x)) h) : WpX G px μ k pc l [.int x] h := by
  intro ad0 n0 ad p e s m args below meth c H ls locs hC hxt hn0 hE hS hSS hL hl hst
  exact vx_ret (W.widen hk.1 hk.2 (W.zret hC.1 hC.2.1 (hC.2.2.2.2.2.1.trans hr) hn (fun t ht hW => ⟨⟨some (.int x), ad, h, rfl, hp, hn0, hE, (fun w hw => by cases hw; trivial), by rw [ht]; exact hS⟩, hSS.F ht⟩) hSS.2.2 hd hC.2.2.2.2.2.2.1))
end PXR
