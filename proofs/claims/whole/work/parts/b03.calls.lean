/-! ===== CALLS, copies, throws; printed by wip/whole/gen/mk3.py ===== -/
theorem gw_sub {w : Cond} (h : w ∈ gw) : GoodIn gw (w :: gw) := fun v hv => (List.mem_cons.mp hv).elim (fun e => by subst e; exact gw_good _ h) (gw_good v)
theorem Mt.met {G : Gx} {d : Nat} {md : Md} {As : List Value} {σ σ' : Sto} {v : Option Value} (h : Mt G d md As σ (.inl v) σ') : Met G.1 md.1 (wd md :: gw) (rmOf d σ σ') (Pm G As σ) (Qo G (.inl v) σ') (σ'.1.length - σ.1.length) (σ'.2 - σ.2) (AA G) := by
  intro p e ha hc hk s m args below hf happ hP hK
  obtain ⟨n, oc, e1, e2, e3, e4⟩ := h.2 p e ha hc hk s m args below hf happ hP hK
  refine ⟨n, oc, e1, e2, e3, ?_⟩
  rcases e4 with e4 | ⟨q, -, E, ce, L, ⟨⟨e5, -⟩, -⟩, -⟩
  · exact e4
  · cases e5
/-- an instance method's run, with its receiver's class -/
def Mi (G : Gx) (d : Nat) (md : Md) (ci a : Nat) (As : List Value) (σ : Sto) (o : Out) (σ' : Sto) : Prop := Mt G d md (.ref a :: As) σ o σ' ∧ (gO σ a ci).isSome = true
/-- what a call of an instance method, of a static one, of a constructor asks of the tables -/
def MB (md : Md) (n : Nat) : Prop := md.2.2.2.2 = [] ∧ Cond.code md.1 md.2.1 md.2.2.1 md.2.2.2.1 ∈ gw ∧ Cond.initialized md.1.cls ∈ gw ∧ (md.1.cls ≠ "java/lang/invoke/MethodHandle" ∧ md.1.cls ≠ "java/lang/invoke/VarHandle" ∧ (parseMethodDescriptor md.1.desc).map (fun d => d.parameters.length) = some n) ∧ md.2.2.1 ≤ 21
def MV (md : Md) (n ci : Nat) : Prop := MB md n ∧ Cond.instanceMethod md.1 ∈ gw ∧ Cond.selects md.1.cls md.1 md.1 ∈ gw ∧ ∃ (T : u_T) (N : Nat), classes[ci]? = some (md.1.cls, T, N)
def MS (md : Md) (n : Nat) : Prop := MB md n ∧ Cond.static md.1 ∈ gw
def MI (md : Md) (n : Nat) : Prop := MB md n ∧ Cond.instanceMethod md.1 ∈ gw ∧ md.1.name = "<init>" ∧ md.2.2.2.1 = none
theorem wd_plain {md : Md} (h : md.2.2.2.2 = []) : wd md = Cond.code md.1 md.2.1 md.2.2.1 md.2.2.2.1 := by rw [wd, h]
section CALLS
variable {G : Gx} {d : Nat} {md : Md} {pc : Nat} {lo : List (Nat × Value)} {st : List Value} {σ σ' σ1 : Sto} {o : Out}
theorem cat8 (hst : (st.map fun v => v.category).sum ≤ 8) : ((st.map (cv G)).map fun v => v.category).sum ≤ 8 := by
  rw [List.map_map]
  have : (fun v => v.category) ∘ cv G = fun v : Value => v.category := by funext v; exact cv_cat G v
  rw [this]; exact hst
section ONE
variable {p : Program} {e : Env} {R : Room} {s : State} {m : MethodId} {args : Array Value} {below : List Frame} {meth : Method} {c : Code} {ls : Array Slot} {H : Heap} {locs : List Loc} {cells slots mc ms : Nat}
theorem Cx.pm (C : Cx G md d p R s m args meth c) (h2 : Rp G σ H) (h3 : va_S (AA G) s.heap H locs) (As : List Value) : ∀ U : State, U.heap = H → s.WarmedH U.vm → Pm G As σ ((As.map (cv G)).toArray) U := by
  intro U hU hW
  refine ⟨rfl, by rw [hU]; exact h2, va_K.moved hW.alike C.2.2.2.2.2.2.2.2.2.1, ?_⟩
  have hE := C.2.2.2.2.2.2.2.2.2.2.1
  exact EV.moved hW (by rw [hU]; exact h3.1) (fun q a b => by rw [hU]; exact h3.2.1 q a b) hE
theorem Cx.cb {mdc : Md} {n idx d' : Nat} {σ1 : Sto} (C : Cx G md d p R s m args meth c) (hm : MB mdc n) (hl : Cond.methodLink md.1.cls idx mdc.1 ∈ gw) (hdd : d' + 1 ≤ d) : CallB R s args md.1.cls idx mdc.1 mdc.2.1 mdc.2.2.1 mdc.2.2.2.1 (wd mdc :: gw) (rmOf d' σ σ1) (σ1.1.length - σ.1.length) (σ1.2 - σ.2) n := by
  have hts := C.2.2.2.2.2.1
  have hfr := C.2.2.2.2.2.2.2.2.2.2.2.1
  have hlo := C.2.2.2.2.2.2.2.2.2.2.2.2.1
  obtain ⟨m1, m2, m3, m4, m5⟩ := hm
  refine callB_of n hts (gw_sub (by rw [wd_plain m1]; exact m2)) (by rw [wd_plain m1]) rfl rfl (hts _ m3) (hts _ hl) m4 ⟨?_, ?_⟩
  · show d' + 1 ≤ R.frames
    omega
  · show 8 + (mdc.2.2.1 + 11) + 40 * d' ≤ R.locals
    omega
theorem Cx.cn {mdc : Md} {n idx d' : Nat} {σ1 : Sto} {host : String} (C : Cx G md d p R s m args meth c) (hm : MB mdc n) (hl : Cond.methodLinkNest md.1.cls idx mdc.1 host ∈ lw_tbl) (hdd : d' + 1 ≤ d) : va_CN R s args md.1.cls idx mdc.1 host mdc.2.1 mdc.2.2.1 mdc.2.2.2.1 (wd mdc :: gw) (rmOf d' σ σ1) (σ1.1.length - σ.1.length) (σ1.2 - σ.2) n := by
  have hts := C.2.2.2.2.2.1
  have hfr := C.2.2.2.2.2.2.2.2.2.2.2.1
  have hlo := C.2.2.2.2.2.2.2.2.2.2.2.2.1
  have hE := C.2.2.2.2.2.2.2.2.2.2.1
  obtain ⟨m1, m2, m3, m4, m5⟩ := hm
  refine va_cnB n hts (gw_sub (by rw [wd_plain m1]; exact m2)) (by rw [wd_plain m1]) rfl rfl (hE.1 _ hl rfl) (hts _ m3) m4 ⟨?_, ?_⟩
  · show d' + 1 ≤ R.frames
    omega
  · show 8 + (mdc.2.2.1 + 11) + 40 * d' ≤ R.locals
    omega
/-- behind a call that returned -/
theorem run_ret {v : Option Value} {a : Array Value} {st0 : List Value} (hr : va_Run p G.1 e R s m args below meth c H locs cells slots (σ1.1.length - σ.1.length) (σ1.2 - σ.2) (F0 m pc ls st0) (st.map (cv G)) (Qo G (.inl v) σ1 a) (AA G))
    (hmono : σ.1.length ≤ σ1.1.length ∧ σ.2 ≤ σ1.2) (kk : J G d md (pc + 3) lo (v.toList ++ st) σ1 o σ') (C : Cx G md d p R s m args meth c) (h1 : lv_has ls md.2.2.1 (lo.map fun q => (q.1, cv G q.2))) (h3 : va_S (AA G) s.heap H locs) (h4 : cells + (σ'.1.length - σ.1.length) ≤ mc) (h5 : slots + (σ'.2 - σ.2) ≤ ms) (h6 : mc ≤ R.cells) (h7 : ms ≤ R.slots) :
    W p G.1 e R s m args below meth c H locs cells slots (vx_MQ below (Qo G o σ') (Xo G o σ') args s mc ms (AA G)) (F0 m pc ls st0) := by
  intro T hT X
  obtain ⟨v', st₀, t, T', L, h0, X', hL, e1, e2, ⟨⟨v2, hv, hv', hR⟩, hF⟩, go⟩ := hr T hT X
  cases hv
  cases hv'
  obtain ⟨k1, k2, k3⟩ := vx_keep h0 e1 h3 (fun q _ h => h) (fun q h => h) hL hF
  obtain ⟨t2, a1, b1⟩ := kk.2 p e R s m args below meth c ls T'.heap (locs ++ L) _ _ mc ms C h1 (by rw [e1]; exact hR) k3 (by have := kk.1; omega) (by have := kk.1; omega) h6 h7 T' rfl X'
  refine ⟨t2, go t2 ?_, b1⟩
  have hstk : (v.toList ++ st).map (cv G) = (v.map (cv G)).toList ++ st.map (cv G) := by cases v <;> rfl
  rw [hstk] at a1
  exact a1
/-- behind a call that threw, where nothing here catches it -/
theorem run_thr {E : String} {a : Array Value} {st0 : List Value} {Qa : State → Outcome → State → Prop} (hr : vx_Run p G.1 e R s m args below meth c H locs cells slots (σ1.1.length - σ.1.length) (σ1.2 - σ.2) (F0 m pc ls st0) (st.map (cv G)) (Qo G (.inr E) σ1 a) (Xo G (.inr E) σ1) (AA G))
    (hh : md.2.2.2.2 = []) (C : Cx G md d p R s m args meth c) (h3 : va_S (AA G) s.heap H locs) (h4 : cells + (σ1.1.length - σ.1.length) ≤ mc) (h5 : slots + (σ1.2 - σ.2) ≤ ms) :
    W p G.1 e R s m args below meth c H locs cells slots (vx_MQ below (Qo G (.inr E) σ1) (Xo G (.inr E) σ1) args s mc ms (AA G)) (F0 m pc ls st0) := by
  intro T hT X
  rcases hr T hT X with ⟨v', st₀, t, T', L, h0, X', hL, e1, e2, ⟨⟨v2, hv, -⟩, -⟩, -⟩ | ⟨q, st₀, t, T', L, E', ce, h0, X', hL, e1, e2, ⟨⟨hE, hR⟩, hF⟩, hce, hcv, hcl, go⟩
  · cases hv
  · cases hE
    obtain ⟨k1, k2, k3⟩ := vx_keep h0 e1 h3 (fun q _ h => h) (fun q h => h) hL hF
    have hout : ∀ x ∈ c.exceptionTable.toList, covers x pc = false := by
      rw [C.2.2.2.2.2.2.2.2.1, hh]
      intro x hx
      cases hx
    obtain ⟨t2, a1, b1⟩ := vx_out (p := p) (l := G.1) (e := e) (R := R) (m := m) (args := args) (below := below) (ls := ls) (rest := st.map (cv G)) (pc := pc) (Qc := Qo G (.inr E) σ1) (XC := Xo G (.inr E) σ1) (free := AA G) (H := T'.heap) (locs := locs ++ L) hout C.2.2.2.2.2.2.1 (by rw [e1]; exact hce) hcv hcl (fun u hu hal => ⟨⟨rfl, by rw [hu, e1]; exact hR⟩, k3.F hu⟩) k3.2.2 h4 h5 T' rfl X'
    exact ⟨t2, go.trans a1, b1⟩
end ONE
theorem recv {H : Heap} {s : State} {a ci : Nat} {C : String} {T : u_T} {N : Nat} (hK : va_K G.2.1 classes (tys G) s) (h2 : Rp G σ H) (hg : (gO σ a ci).isSome = true) (hc : classes[ci]? = some (C, T, N)) : ∃ cell : Cell, H[ad G a]? = some cell ∧ cell.vm.isStatics = false ∧ s.vm.findClass C = some cell.cls := by
  obtain ⟨fs, hfs⟩ := Option.isSome_iff_exists.mp hg
  obtain ⟨q', e1, cell, g1, g2, g3, -⟩ := h2.2.2 a _ (gO_at hfs)
  exact ⟨cell, g1, by rw [g3]; rfl, by rw [g2]; exact (hK.1 ci _ hc).2.1⟩
theorem r_callV {mdc : Md} {a idx ci n d' : Nat} {As : List Value} {v : Option Value} (hd : decode md.2.1 pc = .ok (.invokevirtual idx, 3)) (hm : MV mdc n ci) (hl : Cond.methodLink md.1.cls idx mdc.1 ∈ gw) (hM : Mi G d' mdc ci a As σ (.inl v) σ1) (hdd : d' + 1 ≤ d) (hn : As.length = n) (hst : (st.map fun v => v.category).sum ≤ 8) (kk : J G d md (pc + 3) lo (v.toList ++ st) σ1 o σ') : J G d md pc lo (As.reverse ++ .ref a :: st) σ o σ' := by
  have k1 := kk.1
  have k2 := hM.1.1
  refine ⟨⟨by omega, by omega⟩, fun p e R s m args below meth c ls H locs cells slots mc ms C h1 h2 h3 h4 h5 h6 h7 => ?_⟩
  obtain ⟨T, N, hc⟩ := hm.2.2.2
  have hts := C.2.2.2.2.2.1
  have hr := va_runV (e := e) (below := below) (meth := meth) (locs := locs) (cells := cells) (slots := slots) (g := F0 m pc ls ((As.reverse ++ .ref a :: st).map (cv G))) (As := As.map (cv G)) (rest := st.map (cv G)) (b := ad G a) ⟨C.1, C.2.1, C.2.2.2.1, C.2.2.2.2.1, hts⟩ hM.1.met ⟨C.cb hm.1 hl hdd, hts _ hm.2.1, hts _ hm.2.2.1⟩ ⟨Pm.blind, recv C.2.2.2.2.2.2.2.2.2.1 h2 hM.2 hc, C.pm h2 h3 (.ref a :: As)⟩ rfl (by rw [List.length_map]; exact hn) h1.1 (by simp only [List.map_append, List.map_reverse, List.map_cons]; rfl) (lv_room (rest := st.map (cv G)) (m := m) (pc := pc) (ls := ls) (cat8 hst)) hd ⟨by omega, by omega⟩
  exact run_ret hr k2 kk C h1 h3 h4 h5 h6 h7
theorem r_callVX {mdc : Md} {a idx ci n d' : Nat} {As : List Value} {E : String} (hd : decode md.2.1 pc = .ok (.invokevirtual idx, 3)) (hm : MV mdc n ci) (hl : Cond.methodLink md.1.cls idx mdc.1 ∈ gw) (hM : Mi G d' mdc ci a As σ (.inr E) σ1) (hdd : d' + 1 ≤ d) (hn : As.length = n) (hst : (st.map fun v => v.category).sum ≤ 8) (hh : md.2.2.2.2 = []) : J G d md pc lo (As.reverse ++ .ref a :: st) σ (.inr E) σ1 := by
  have k2 := hM.1.1
  refine ⟨k2, fun p e R s m args below meth c ls H locs cells slots mc ms C h1 h2 h3 h4 h5 h6 h7 => ?_⟩
  obtain ⟨T, N, hc⟩ := hm.2.2.2
  have hts := C.2.2.2.2.2.1
  have hr := vx_runV (e := e) (below := below) (meth := meth) (locs := locs) (cells := cells) (slots := slots) (g := F0 m pc ls ((As.reverse ++ .ref a :: st).map (cv G))) (As := As.map (cv G)) (rest := st.map (cv G)) (b := ad G a) ⟨C.1, C.2.1, C.2.2.2.1, C.2.2.2.2.1, hts⟩ hM.1.2 ⟨C.cb hm.1 hl hdd, hts _ hm.2.1, hts _ hm.2.2.1⟩ ⟨Pm.blind, recv C.2.2.2.2.2.2.2.2.2.1 h2 hM.2 hc, C.pm h2 h3 (.ref a :: As)⟩ rfl (by rw [List.length_map]; exact hn) h1.1 (by simp only [List.map_append, List.map_reverse, List.map_cons]; rfl) (lv_room (rest := st.map (cv G)) (m := m) (pc := pc) (ls := ls) (cat8 hst)) hd ⟨by omega, by omega⟩
  exact run_thr (Qa := fun _ _ _ => True) hr hh C h3 h4 h5
theorem r_callS {mdc : Md} {idx n d' : Nat} {As : List Value} {v : Option Value} (hd : decode md.2.1 pc = .ok (.invokestatic idx, 3)) (hm : MS mdc n) (hl : Cond.methodLink md.1.cls idx mdc.1 ∈ gw) (hM : Mt G d' mdc As σ (.inl v) σ1) (hdd : d' + 1 ≤ d) (hn : As.length = n) (hst : (st.map fun v => v.category).sum ≤ 8) (kk : J G d md (pc + 3) lo (v.toList ++ st) σ1 o σ') : J G d md pc lo (As.reverse ++ st) σ o σ' := by
  have k1 := kk.1
  have k2 := hM.1
  refine ⟨⟨by omega, by omega⟩, fun p e R s m args below meth c ls H locs cells slots mc ms C h1 h2 h3 h4 h5 h6 h7 => ?_⟩
  have hts := C.2.2.2.2.2.1
  have hr := va_runS (e := e) (below := below) (meth := meth) (locs := locs) (cells := cells) (slots := slots) (g := F0 m pc ls ((As.reverse ++ st).map (cv G))) (As := As.map (cv G)) (rest := st.map (cv G)) ⟨C.1, C.2.1, C.2.2.2.1, C.2.2.2.2.1, hts⟩ hM.met ⟨C.cb hm.1 hl hdd, hts _ hm.2⟩ ⟨Pm.blind, C.pm h2 h3 As⟩ rfl (by rw [List.length_map]; exact hn) h1.1 (by simp only [List.map_append, List.map_reverse]) (lv_room (rest := st.map (cv G)) (m := m) (pc := pc) (ls := ls) (cat8 hst)) hd ⟨by omega, by omega⟩
  exact run_ret hr k2 kk C h1 h3 h4 h5 h6 h7
theorem r_callSN {mdc : Md} {idx n d' : Nat} {As : List Value} {v : Option Value} {host : String} (hd : decode md.2.1 pc = .ok (.invokestatic idx, 3)) (hm : MS mdc n) (hl : Cond.methodLinkNest md.1.cls idx mdc.1 host ∈ lw_tbl) (hM : Mt G d' mdc As σ (.inl v) σ1) (hdd : d' + 1 ≤ d) (hn : As.length = n) (hst : (st.map fun v => v.category).sum ≤ 8) (kk : J G d md (pc + 3) lo (v.toList ++ st) σ1 o σ') : J G d md pc lo (As.reverse ++ st) σ o σ' := by
  have k1 := kk.1
  have k2 := hM.1
  refine ⟨⟨by omega, by omega⟩, fun p e R s m args below meth c ls H locs cells slots mc ms C h1 h2 h3 h4 h5 h6 h7 => ?_⟩
  have hts := C.2.2.2.2.2.1
  have hr := va_runSN (e := e) (below := below) (meth := meth) (locs := locs) (cells := cells) (slots := slots) (g := F0 m pc ls ((As.reverse ++ st).map (cv G))) (As := As.map (cv G)) (rest := st.map (cv G)) ⟨C.1, C.2.1, C.2.2.2.1, C.2.2.2.2.1, hts⟩ hM.met ⟨C.cn hm.1 hl hdd, hts _ hm.2, trivial⟩ ⟨Pm.blind, C.pm h2 h3 As⟩ rfl (by rw [List.length_map]; exact hn) h1.1 (by simp only [List.map_append, List.map_reverse]) (lv_room (rest := st.map (cv G)) (m := m) (pc := pc) (ls := ls) (cat8 hst)) hd ⟨by omega, by omega⟩
  exact run_ret hr k2 kk C h1 h3 h4 h5 h6 h7
theorem r_callI {mdc : Md} {a idx n d' : Nat} {As : List Value} (hd : decode md.2.1 pc = .ok (.invokespecial idx, 3)) (hm : MI mdc n) (hl : Cond.methodLink md.1.cls idx mdc.1 ∈ gw) (hM : Mt G d' mdc (.ref a :: As) σ (.inl none) σ1) (hdd : d' + 1 ≤ d) (hn : As.length = n) (hst : (st.map fun v => v.category).sum ≤ 8) (kk : J G d md (pc + 3) lo st σ1 o σ') : J G d md pc lo (As.reverse ++ .ref a :: st) σ o σ' := by
  have k1 := kk.1
  have k2 := hM.1
  refine ⟨⟨by omega, by omega⟩, fun p e R s m args below meth c ls H locs cells slots mc ms C h1 h2 h3 h4 h5 h6 h7 => ?_⟩
  have hts := C.2.2.2.2.2.1
  have hcb := C.cb (σ := σ) (σ1 := σ1) hm.1 hl hdd
  rw [hm.2.2.2] at hcb
  have hr := va_runI (e := e) (below := below) (meth := meth) (locs := locs) (cells := cells) (slots := slots) (g := F0 m pc ls ((As.reverse ++ .ref a :: st).map (cv G))) (As := As.map (cv G)) (rest := st.map (cv G)) (b := ad G a) ⟨C.1, C.2.1, C.2.2.2.1, C.2.2.2.2.1, hts⟩ hM.met ⟨hcb, hm.2.2.1, hts _ hm.2.1⟩ ⟨Pm.blind, C.pm h2 h3 (.ref a :: As)⟩ rfl (by rw [List.length_map]; exact hn) h1.1 (by simp only [List.map_append, List.map_reverse, List.map_cons]; rfl) (lv_room (rest := st.map (cv G)) (m := m) (pc := pc) (ls := ls) (cat8 hst)) hd ⟨by omega, by omega⟩
  exact run_ret (v := none) hr k2 kk C h1 h3 h4 h5 h6 h7
theorem r_callIN {mdc : Md} {a idx n d' : Nat} {As : List Value} {host : String} (hd : decode md.2.1 pc = .ok (.invokespecial idx, 3)) (hm : MI mdc n) (hl : Cond.methodLinkNest md.1.cls idx mdc.1 host ∈ lw_tbl) (hM : Mt G d' mdc (.ref a :: As) σ (.inl none) σ1) (hdd : d' + 1 ≤ d) (hn : As.length = n) (hst : (st.map fun v => v.category).sum ≤ 8) (kk : J G d md (pc + 3) lo st σ1 o σ') : J G d md pc lo (As.reverse ++ .ref a :: st) σ o σ' := by
  have k1 := kk.1
  have k2 := hM.1
  refine ⟨⟨by omega, by omega⟩, fun p e R s m args below meth c ls H locs cells slots mc ms C h1 h2 h3 h4 h5 h6 h7 => ?_⟩
  have hts := C.2.2.2.2.2.1
  have hcb := C.cn (σ := σ) (σ1 := σ1) hm.1 hl hdd
  rw [hm.2.2.2] at hcb
  have hr := va_runIN (e := e) (below := below) (meth := meth) (locs := locs) (cells := cells) (slots := slots) (g := F0 m pc ls ((As.reverse ++ .ref a :: st).map (cv G))) (As := As.map (cv G)) (rest := st.map (cv G)) (b := ad G a) ⟨C.1, C.2.1, C.2.2.2.1, C.2.2.2.2.1, hts⟩ hM.met ⟨hcb, hm.2.2.1, hts _ hm.2.1⟩ ⟨Pm.blind, C.pm h2 h3 (.ref a :: As)⟩ rfl (by rw [List.length_map]; exact hn) h1.1 (by simp only [List.map_append, List.map_reverse, List.map_cons]; rfl) (lv_room (rest := st.map (cv G)) (m := m) (pc := pc) (ls := ls) (cat8 hst)) hd ⟨by omega, by omega⟩
  exact run_ret (v := none) hr k2 kk C h1 h3 h4 h5 h6 h7
end CALLS
