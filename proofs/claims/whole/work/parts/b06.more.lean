/-! ===== THE SCRIPT, CATCHES, methods with handlers; printed by wip/whole/gen/mk6.py ===== -/
/-- an exception's object is put away -/
def AST (cc : ByteArray) (hp k nx : Nat) : Prop := (decode cc hp = .ok (.astore k, 2) ∧ nx = hp + 2) ∨ ∃ n : Fin 4, decode cc hp = .ok (.astore_n n, 1) ∧ (n : Nat) = k ∧ nx = hp + 1
theorem wd_hh {md : Md} (h : md.2.2.2.2 ≠ []) : wd md = Cond.codeWith md.1 md.2.1 md.2.2.1 md.2.2.2.1 md.2.2.2.2 := by
  unfold wd
  split
  · next q => exact absurd q h
  · rfl
def MH (md : Md) (n : Nat) : Prop := md.2.2.2.2 ≠ [] ∧ Cond.codeWith md.1 md.2.1 md.2.2.1 md.2.2.2.1 md.2.2.2.2 ∈ gw ∧ Cond.initialized md.1.cls ∈ gw ∧ (md.1.cls ≠ "java/lang/invoke/MethodHandle" ∧ md.1.cls ≠ "java/lang/invoke/VarHandle" ∧ (parseMethodDescriptor md.1.desc).map (fun d => d.parameters.length) = some n) ∧ md.2.2.1 ≤ 21 ∧ Cond.static md.1 ∈ gw
section MORE
variable {G : Gx} {d : Nat} {md : Md} {pc : Nat} {lo : List (Nat × Value)} {st : List Value} {σ σ' σ1 : Sto} {o : Out}
theorem r_sld {i : Int32} (hd : decode md.2.1 pc = .ok (.iaload, 1)) (hin : vp_in i G.sl) (kk : J G d md (pc + 1) lo (.int (G.sx i.toNatClampNeg) :: st) σ o σ') : J G d md pc lo (.int i :: .ref 0 :: st) σ o σ' := by
  refine ⟨kk.1, fun p e R s m args below meth c ls H locs cells slots mc ms C h1 h2 h3 h4 h5 h6 h7 => ?_⟩
  obtain ⟨-, -, -, -, -, hX, e7, e8, -⟩ := C.2.2.2.2.2.2.2.2.2.2.1
  exact va_sld (rest := st.map (cv G)) C.1 C.2.1 hX (Nat.lt_of_lt_of_le e7 e8) (Nat.not_le.mpr e7) h3 hin hd (kk.2 p e R s m args below meth c ls H locs cells slots mc ms C h1 h2 h3 h4 h5 h6 h7)
theorem r_slen (hd : decode md.2.1 pc = .ok (.arraylength, 1)) (kk : J G d md (pc + 1) lo (.int (Int32.ofNat G.sl) :: st) σ o σ') : J G d md pc lo (.ref 0 :: st) σ o σ' := by
  refine ⟨kk.1, fun p e R s m args below meth c ls H locs cells slots mc ms C h1 h2 h3 h4 h5 h6 h7 => ?_⟩
  obtain ⟨-, -, -, -, -, hX, e7, e8, -⟩ := C.2.2.2.2.2.2.2.2.2.2.1
  exact va_slen (rest := st.map (cv G)) C.1 C.2.1 hX (Nat.lt_of_lt_of_le e7 e8) (Nat.not_le.mpr e7) h3 hd (kk.2 p e R s m args below meth c ls H locs cells slots mc ms C h1 h2 h3 h4 h5 h6 h7)
theorem r_callVC {mdc : Md} {a idx ci n d' k nx : Nat} {As : List Value} {E : String} {iv : Int} {v : Int32} (pre : List (Nat × Nat × Nat × Nat)) (x : Nat × Nat × Nat × Nat) (suf : List (Nat × Nat × Nat × Nat)) (hd : decode md.2.1 pc = .ok (.invokevirtual idx, 3)) (hm : MV mdc n ci) (hl : Cond.methodLink md.1.cls idx mdc.1 ∈ gw) (hM : Mi G d' mdc ci a As σ (.inr E) σ1) (hdd : d' + 1 ≤ d) (hn : As.length = n) (hst : (st.map fun v => v.category).sum ≤ 8)
    (hE : E ∈ xcs) (hh : md.2.2.2.2 = pre ++ x :: suf) (hpre : ∀ z ∈ pre, z.2.2.2 ≠ 0 ∧ ∃ nm ∈ xcs, E ≠ nm ∧ Cond.classLink md.1.cls z.2.2.2 nm ∈ gw) (hx : covers ⟨x.1, x.2.1, x.2.2.1, x.2.2.2⟩ pc = true) (h0 : x.2.2.2 ≠ 0) (hlk : Cond.classLink md.1.cls x.2.2.2 E ∈ gw) (hcast : Cond.castable E E ∈ lw_tbl)
    (hA : AST md.2.1 x.2.2.1 k nx) (hk : k < md.2.2.1) (hc : decode md.2.1 nx = .ok (.iconst iv, 1)) (hv : Int32.ofInt iv = v) (hi : decode md.2.1 (nx + 1) = .ok (.ireturn, 1)) (hr : md.2.2.2.1 = some .int) : J G d md pc lo (As.reverse ++ .ref a :: st) σ (.inl (some (.int v))) σ1 := by
  have k2 := hM.1.1
  refine ⟨k2, fun p e R s m args below meth c ls H locs cells slots mc ms C h1 h2 h3 h4 h5 h6 h7 => ?_⟩
  obtain ⟨T0, N0, hc0⟩ := hm.2.2.2
  have hts := C.2.2.2.2.2.1
  have hEV := C.2.2.2.2.2.2.2.2.2.2.1
  have hrun := vx_runV (e := e) (below := below) (meth := meth) (locs := locs) (cells := cells) (slots := slots) (g := F0 m pc ls ((As.reverse ++ .ref a :: st).map (cv G))) (As := As.map (cv G)) (rest := st.map (cv G)) (b := ad G a) ⟨C.1, C.2.1, C.2.2.2.1, C.2.2.2.2.1, hts⟩ hM.1.2 ⟨C.cb hm.1 hl hdd, hts _ hm.2.1, hts _ hm.2.2.1⟩ ⟨Pm.blind, recv C.2.2.2.2.2.2.2.2.2.1 h2 hM.2 hc0, C.pm h2 h3 (.ref a :: As)⟩ rfl (by rw [List.length_map]; exact hn) h1.1 (by simp only [List.map_append, List.map_reverse, List.map_cons]; rfl) (lv_room (rest := st.map (cv G)) (m := m) (pc := pc) (ls := ls) (cat8 hst)) hd ⟨by omega, by omega⟩
  intro T hT X
  rcases hrun T hT X with ⟨v', st₀, t, T', L, g0, X', hL, e1, e2, ⟨⟨v2, hv2, -⟩, -⟩, -⟩ | ⟨q, st₀, t, T', L, E', ce, g0, X', hL, e1, e2, ⟨⟨hE', hR⟩, hF⟩, hce, hcv, hcl, go⟩
  · cases hv2
  · cases hE'
    obtain ⟨k1, -, k3⟩ := vx_keep g0 e1 h3 (fun q _ h => h) (fun q h => h) hL hF
    have fin : ∀ ls : Array Slot, W p G.1 e R s m args below meth c T'.heap (locs ++ L) (cells + (σ1.1.length - σ.1.length)) (slots + (σ1.2 - σ.2)) (vx_MQ below (Qo G (.inl (some (.int v))) σ1) (Xo G (.inl (some (.int v))) σ1) args s mc ms (AA G)) (F0 m nx ls []) := by
      intro ls
      refine lv_iconst (rest := []) C.1 C.2.1 hc hv ?_
      refine W.widen h4 h5 (vx_ret (W.iret C.1 C.2.1 (C.2.2.1.trans hr) (fun u hu _ => ?_) (fun q hq => k3.2.2 q hq) hi C.2.2.2.2.2.2.1))
      have hR2 : Rp G σ1 T'.heap := by rw [e1]; exact hR
      exact hR2.q (v := some (.int v)) k3 hu
    have kk : W p G.1 e R s m args below meth c T'.heap (locs ++ L) (cells + (σ1.1.length - σ.1.length)) (slots + (σ1.2 - σ.2)) (vx_MQ below (Qo G (.inl (some (.int v))) σ1) (Xo G (.inl (some (.int v))) σ1) args s mc ms (AA G)) (F0 m x.2.2.1 ls [.ref q]) := by
      rcases hA with ⟨a1, a2⟩ | ⟨nn, a1, a2, a3⟩
      · subst a2
        exact lv_astore (rest := []) C.1 C.2.1 a1 h1 hk rfl (fun ls' _ => fin ls')
      · subst a3
        exact lv_astore_n (rest := []) C.1 C.2.1 a1 a2 h1 hk rfl (fun ls' _ => fin ls')
    have hsp : c.exceptionTable.toList = tableOf pre ++ (⟨x.1, x.2.1, x.2.2.1, x.2.2.2⟩ : ExceptionTableEntry) :: tableOf suf := by
      rw [C.2.2.2.2.2.2.2.2.1, hh]
      simp [tableOf]
    obtain ⟨t2, b1, b2⟩ := vx_catch (rest := st.map (cv G)) (pc := pc) (ls := ls) (E := E) C.2.2.2.2.1 (tableOf pre) _ (tableOf suf) hsp (fun z hz => by
      obtain ⟨y, hy, rfl⟩ := List.mem_map.mp hz
      obtain ⟨y0, nm, hnm, hne, hlk2⟩ := hpre y hy
      exact Or.inr ⟨y0, nm, hts _ hlk2, hEV.2.2.2.2.2.2.2.2 E hE nm hnm hne⟩) hx h0 (hts _ hlk) (va_Nw.use rfl (hEV.1 _ hcast rfl)) (by rw [e1]; exact hce) hcv hcl kk T' rfl X'
    exact ⟨t2, go.trans b1, b2⟩
theorem J.toMtH {As : List Value} (hy : plainName md.1.cls = true) (hh : md.2.2.2.2 ≠ []) (hl : G.1.stackTraces = false) (hlen : (lg_sl (As.map (cv G))).length ≤ md.2.2.1) (hlo : lv_args 0 (As.map (cv G)) = lo.map fun q => (q.1, cv G q.2))
    (h : J G d md 0 lo [] σ o σ') : Mt G d md As σ o σ' := by
  refine ⟨h.1, ?_⟩
  refine vx_ofWH (cc := md.2.1) (maxL := md.2.2.1) (ret := md.2.2.2.1) (hh := md.2.2.2.2) hy (by rw [wd_hh hh]) ?_
  intro p e s m args below meth c s₁ B hml hP
  obtain ⟨rfl, hR, hK, hE⟩ := hP
  have hts := atoms_spec (ws := wd md :: gw) B.pre
  have htb : c.exceptionTable.toList = tableOf md.2.2.2.2 := vx_table (x := md.1) B (by have := hts (wd md) List.mem_cons_self; rw [wd_hh hh] at this; exact this)
  rw [lg_entry_eq]
  have hl1 := lv_entry (As.map (cv G)) (n := md.2.2.1) hlen
  rw [hlo] at hl1
  exact h.2 p e _ s m _ below meth c _ s.heap [] 0 0 _ _ ⟨B.exec, B.bytes, B.returns, hml, findClass_of_methodNamed B.named, fun w hw => hts w (List.mem_cons_of_mem _ hw), B.notSynchronized, (name_of_methodNamed B.named B.method).1, htb, hK, hE, Nat.le_refl _, Nat.le_refl _, hl⟩ hl1 hR va_S.rf (by rw [Nat.zero_add]; exact Nat.le_refl _) (by rw [Nat.zero_add]; exact Nat.le_refl _) (Nat.le_refl _) (Nat.le_refl _)
theorem r_callSH {mdc : Md} {idx n d' : Nat} {As : List Value} {v : Option Value} (hd : decode md.2.1 pc = .ok (.invokestatic idx, 3)) (hm : MH mdc n) (hl : Cond.methodLink md.1.cls idx mdc.1 ∈ gw) (hM : Mt G d' mdc As σ (.inl v) σ1) (hdd : d' + 1 ≤ d) (hn : As.length = n) (hst : (st.map fun v => v.category).sum ≤ 8) (kk : J G d md (pc + 3) lo (v.toList ++ st) σ1 o σ') : J G d md pc lo (As.reverse ++ st) σ o σ' := by
  have k1 := kk.1
  have k2 := hM.1
  refine ⟨⟨by omega, by omega⟩, fun p e R s m args below meth c ls H locs cells slots mc ms C h1 h2 h3 h4 h5 h6 h7 => ?_⟩
  have hts := C.2.2.2.2.2.1
  have hfr := C.2.2.2.2.2.2.2.2.2.2.2.1
  have hlo := C.2.2.2.2.2.2.2.2.2.2.2.2.1
  obtain ⟨m1, m2, m3, m4, m5, m6⟩ := hm
  have hcw : vx_CSW R s args md.1.cls idx mdc.1 mdc.2.1 mdc.2.2.1 mdc.2.2.2.1 mdc.2.2.2.2 (wd mdc :: gw) (rmOf d' σ σ1) (σ1.1.length - σ.1.length) (σ1.2 - σ.2) n := by
    refine ⟨⟨rfl, rfl, ?_, ?_, pay_in hts (gw_sub (by rw [wd_hh m1]; exact m2)), by rw [wd_hh m1]; exact List.mem_cons_self⟩, hts _ m2, hts _ m3, ⟨m4.1, m4.2.1⟩, fun sig h => ?_, hts _ hl, hts _ m6⟩
    · show d' + 1 ≤ R.frames
      omega
    · show 8 + (mdc.2.2.1 + 11) + 40 * d' ≤ R.locals
      omega
    · have h9 := m4.2.2
      rw [h] at h9
      exact (Option.some.inj h9).symm
  have hr := vx_runSX (e := e) (below := below) (meth := meth) (locs := locs) (cells := cells) (slots := slots) (g := F0 m pc ls ((As.reverse ++ st).map (cv G))) (As := As.map (cv G)) (rest := st.map (cv G)) ⟨C.1, C.2.1, C.2.2.2.1, C.2.2.2.2.1, hts⟩ hM.2 hcw ⟨Pm.blind, C.pm h2 h3 As⟩ rfl (by rw [List.length_map]; exact hn) h1.1 (by simp only [List.map_append, List.map_reverse]) (lv_room (rest := st.map (cv G)) (m := m) (pc := pc) (ls := ls) (cat8 hst)) hd ⟨by omega, by omega⟩
  refine run_ret (a := (As.map (cv G)).toArray) (fun T hT X => ?_) k2 kk C h1 h3 h4 h5 h6 h7
  rcases hr T hT X with q | ⟨q, st₀, t, T', L, E', ce, g0, X', hL, e1, e2, ⟨⟨hE', -⟩, -⟩, -⟩
  · exact q
  · cases hE'
end MORE
