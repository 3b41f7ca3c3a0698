/-! ===== THROWS (vy_throwS, vy_throwSW: vx_throwS, vx_throwSW of the exceptions' text, which say too that one cell was made), copies ===== -/
section VY
variable {p : Program} {l : Launch} {e : Env} {R : Room} {s : State} {m : MethodId} {args : Array Value} {below : List Frame} {meth : Method} {c : Code} {H : Heap} {locs : List Loc} {cells slots : Nat} {Q : State → Prop}
variable {mc ms : Nat} {free : Addr → Prop} {A0 A1 : Nat → Prop} {H0 : Heap} {a : Array Value} {ls : Array Slot} {st0 rest : List Value}
variable {Qc : Array Value → State → Outcome → State → Prop} {XC : String → State → State → Prop}
theorem vy_throwS {cc : ByteArray} {pc : Nat} (hexec : p.tables.exec = Jvm.exec) (hb : c.code = cc) (hl : l.stackTraces = false) {own cls text : String} {names : List String} {ik is ic mc ms sa : Nat} {A : Nat → Prop}
    (hown : s.vm.findClass own = some m.cls) (hcls : Bundle.fit cls = true) (hnames : ∀ n ∈ names, Bundle.fit n = true)
    (hk : (Cond.classLink own ik cls).before args s = true) (hini : (Cond.initialized cls).before args s = true) (hstr : vk_R own is text sa s) (hat : ∀ w ∈ vx_atS own ic cls names, w.before args s = true)
    (hgood : ∀ w ∈ Cond.classLink own ik cls :: Cond.initialized cls :: vx_atS own ic cls names, vx_ot w = true)
    (hU : vx_Zq Bundle.tN "UNASSIGNED_STACK" Bundle.steD A s s.heap) (hN : vx_Zq Bundle.tN "SUPPRESSED_SENTINEL" Bundle.listD A s s.heap) (hS : va_S A s.heap H locs) (hsize : ls.size = c.maxLocals)
    (d0 : decode cc pc = .ok (.new ik, 3)) (d3 : decode cc (pc + 3) = .ok (.dup, 1)) (d4 : decode cc (pc + 4) = .ok (.ldc is, 2)) (d6 : decode cc (pc + 6) = .ok (.invokespecial ic, 3)) (d9 : decode cc (pc + 9) = .ok (.athrow, 1))
    (hout : ∀ x ∈ c.exceptionTable.toList, covers x (pc + 9) = false)
    (hRframes : names.length + 3 < R.frames) (hRlocals : (rest.map fun v => v.category).sum + (13 * (names.length + 1) + 43) ≤ R.locals) (hRcells : cells + 1 ≤ R.cells) (hRslots : slots + 6 ≤ R.slots) (hlocks : meth.locks = false)
    (hx : ∀ t : State, s.vm.Alike t.vm → t.heap.size = H.size + 1 → (∀ q : Nat, q < H.size → t.heap[q]? = H[q]?) → XC cls s t)
    (hf : ∀ z ∈ locs, free z.base) (hc : cells + 1 ≤ mc) (hs : slots + 6 ≤ ms) :
    W p l e R s m args below meth c H locs cells slots (vx_MQ below Qc XC args s mc ms free) (F0 m pc ls rest) := by
  intro T hT X
  have htr : e.platform.stackTraces = false := (show e.platform.stackTraces = l.stackTraces by rw [X.admits.platform]).trans hl
  have Y := vx_rebase X (R' := { frames := R.frames, locals := R.locals, cells := 1, slots := 6 }) (Nat.le_refl _) (Nat.le_refl _) hRcells hRslots
  obtain ⟨s', hA⟩ : ∃ z, z = (T.setVm s.vm).setFrames (.invoking m args :: below) := ⟨_, rfl⟩
  rw [← hA] at Y
  have hvm : s'.vm = s.vm := by rw [hA]; rfl
  have hhp : s'.heap = H := by rw [hA]; exact hT
  have hW0 : s.WarmedH s'.vm := by rw [hvm]; exact State.WarmedH.refl s
  have hat' : ∀ w ∈ vx_atS own ic cls names, w.before args s' = true := fun w hw => vx_ot_at hW0 hvm.symm (hgood w (List.mem_cons_of_mem _ (List.mem_cons_of_mem _ hw))) (hat w hw)
  have hk' : (Cond.classLink own ik cls).before args s' = true := vx_ot_at hW0 hvm.symm (hgood _ List.mem_cons_self) hk
  have hini' : (Cond.initialized cls).before args s' = true := vx_ot_at hW0 hvm.symm (hgood _ (List.mem_cons_of_mem _ List.mem_cons_self)) hini
  have hU' : vx_Zq Bundle.tN "UNASSIGNED_STACK" Bundle.steD A s' s'.heap := by rw [hhp]; exact vx_Zq.moved hW0.alike (hU.kept hS.2.1)
  have hN' : vx_Zq Bundle.tN "SUPPRESSED_SENTINEL" Bundle.listD A s' s'.heap := by rw [hhp]; exact vx_Zq.moved hW0.alike (hN.kept hS.2.1)
  have h : ∀ w ∈ Bundle.ownAtoms own ic cls names, w.before args s' = true := vx_own hat' (vx_isRefq hU'.1) (vx_isRefq hN'.1) hU'.2.word hN'.2.word
  have hown' : s'.vm.findClass own = some m.cls := by rw [hvm]; exact hown
  have hins : (Cond.instantiable cls 6).before args s' = true := h _ (by simp [Bundle.ownAtoms])
  obtain ⟨vm₁, cX, kX, hfX, hkX, -, -, X₁, st1⟩ := Y.newCold hexec (own := own) (C := cls) (index := ik) (n := 6) hown' hk' hins hini'
    (g := F0 m pc ls rest) rfl (by rw [hb]; exact d0) (Nat.le_refl _) (Nat.le_refl _)
  generalize hT1 : (T.setVm vm₁).pushCell { cls := cX, slots := kX.instanceTypes.map defaultValue, vm := .none } = T1 at X₁ st1
  have hcat : (Value.ref T.heap.size).category = 1 := rfl
  have hcellA : T1.heap[T.heap.size]? = some (freshCell cX kX) := by rw [← hT1]; exact State.heap_pushCell_size _ _
  have d3' : decode c.code (pc + 3) = .ok (.dup, 1) := by rw [hb]; exact d3
  have d4' : decode c.code (pc + 4) = .ok (.ldc is, 2) := by rw [hb]; exact d4
  have hstr' : vk_R own is text sa s' := vk_R.warm hW0 hstr
  obtain ⟨U, hsteps, hrun, hend, hW, hsame, ce, hce, hO⟩ := X₁.ctorThrowS hexec htr (own := own) (cls := cls) (names := names) (ic := ic) hown' hcls hnames h (fun x hx => nomatch hx) hfX hkX hcellA (by rw [hhp, hT]; exact Nat.le_refl _) (msg := .ref sa) rfl
    (g := { method := m, pc := pc + 6, locals := ls, stack := .ref sa :: .ref T.heap.size :: .ref T.heap.size :: rest, locked := none }) rfl hsize rfl rfl (rest := rest) rfl
    (by rw [hb]; exact d6) (by rw [hb]; exact d9) hout hRframes (by simp only [List.map_cons, List.sum_cons, hcat]; omega) hlocks
  obtain ⟨f1, f2⟩ := vx_frame hsame
  rw [hhp] at f1 f2
  have hz9 : U.heap.size = H.size + 1 := by
    have z1 : U.heap.size ≤ s'.heap.size + (0 + 1) := hsame.2.2.1
    have z2 : T.heap.size < U.heap.size := (Array.getElem?_eq_some_iff.mp hce).1
    rw [hhp] at z1
    rw [hT] at z2
    omega
  have hWs : s.WarmedH U.vm := State.WarmedH.trans hW0 hW
  have hcl : s.vm.findClass cls = some ce.cls := by
    have h9 := hO.cls
    rw [hvm] at h9
    exact h9
  have hall : s.sameButNew ({ U with vm := s.vm } : State) locs mc ms := by
    subst hA
    obtain ⟨e1, e2⟩ := hsame
    rw [State.setFrames_setFrames] at e1
    have h2 : (T.setVm s.vm).sameButNew ({ U with vm := s.vm } : State) [] (0 + 1) (0 + 6) := ⟨e1, e2⟩
    have h3 := X.same.trans h2
    rw [List.append_nil] at h3
    exact h3.mono hc hs
  refine ⟨U, ?_, .threw T.heap.size, hrun, hend, Or.inr ⟨T.heap.size, rfl, cls, ce, locs, hx U hWs.alike hz9 (fun q hq => f2 q hq (fun z hz => nomatch hz)), hce, hO.vm, hcl, hWs, hall, hf⟩⟩
  refine st1 _ ?_
  show Steps p.tables e below (T1.setTop { method := m, pc := pc + 3, locals := ls, stack := .ref T.heap.size :: rest, locked := none }) _
  jvm_step X₁.here [X₁.here.top, hexec, d3', Value.category]
  exact X₁.ldcString hexec (own := own) (text := text) (index := is) (a := sa) hown' hstr'.1 hstr'.2
    (g := { method := m, pc := pc + 4, locals := ls, stack := .ref T.heap.size :: .ref T.heap.size :: rest, locked := none }) rfl d4' _ hsteps
theorem vy_throwSW {cc : ByteArray} {pc : Nat} (hexec : p.tables.exec = Jvm.exec) (hb : c.code = cc) (hl : l.stackTraces = false) {own cls text : String} {names : List String} {ik is ic mc ms sa : Nat} {A : Nat → Prop}
    (hown : s.vm.findClass own = some m.cls) (hcls : Bundle.fit cls = true) (hnames : ∀ n ∈ names, Bundle.fit n = true)
    (hk : (Cond.classLink own ik cls).before args s = true) (hini : (Cond.initialized cls).before args s = true) (hstr : vk_R own is text sa s) (hat : ∀ w ∈ vx_atS own ic cls names, w.before args s = true)
    (hgood : ∀ w ∈ Cond.classLink own ik cls :: Cond.initialized cls :: vx_atS own ic cls names, vx_ot w = true)
    (hU : vx_Zq Bundle.tN "UNASSIGNED_STACK" Bundle.steD A s s.heap) (hN : vx_Zq Bundle.tN "SUPPRESSED_SENTINEL" Bundle.listD A s s.heap) (hS : va_S A s.heap H locs) (hsize : ls.size = c.maxLocals)
    (d0 : decode cc pc = .ok (.new ik, 3)) (d3 : decode cc (pc + 3) = .ok (.dup, 1)) (d4 : decode cc (pc + 4) = .ok (.ldc_w is, 3)) (d7 : decode cc (pc + 7) = .ok (.invokespecial ic, 3)) (d10 : decode cc (pc + 10) = .ok (.athrow, 1))
    (hout : ∀ x ∈ c.exceptionTable.toList, covers x (pc + 10) = false)
    (hRframes : names.length + 3 < R.frames) (hRlocals : (rest.map fun v => v.category).sum + (13 * (names.length + 1) + 43) ≤ R.locals) (hRcells : cells + 1 ≤ R.cells) (hRslots : slots + 6 ≤ R.slots) (hlocks : meth.locks = false)
    (hx : ∀ t : State, s.vm.Alike t.vm → t.heap.size = H.size + 1 → (∀ q : Nat, q < H.size → t.heap[q]? = H[q]?) → XC cls s t)
    (hf : ∀ z ∈ locs, free z.base) (hc : cells + 1 ≤ mc) (hs : slots + 6 ≤ ms) :
    W p l e R s m args below meth c H locs cells slots (vx_MQ below Qc XC args s mc ms free) (F0 m pc ls rest) := by
  intro T hT X
  have htr : e.platform.stackTraces = false := (show e.platform.stackTraces = l.stackTraces by rw [X.admits.platform]).trans hl
  have Y := vx_rebase X (R' := { frames := R.frames, locals := R.locals, cells := 1, slots := 6 }) (Nat.le_refl _) (Nat.le_refl _) hRcells hRslots
  obtain ⟨s', hA⟩ : ∃ z, z = (T.setVm s.vm).setFrames (.invoking m args :: below) := ⟨_, rfl⟩
  rw [← hA] at Y
  have hvm : s'.vm = s.vm := by rw [hA]; rfl
  have hhp : s'.heap = H := by rw [hA]; exact hT
  have hW0 : s.WarmedH s'.vm := by rw [hvm]; exact State.WarmedH.refl s
  have hat' : ∀ w ∈ vx_atS own ic cls names, w.before args s' = true := fun w hw => vx_ot_at hW0 hvm.symm (hgood w (List.mem_cons_of_mem _ (List.mem_cons_of_mem _ hw))) (hat w hw)
  have hk' : (Cond.classLink own ik cls).before args s' = true := vx_ot_at hW0 hvm.symm (hgood _ List.mem_cons_self) hk
  have hini' : (Cond.initialized cls).before args s' = true := vx_ot_at hW0 hvm.symm (hgood _ (List.mem_cons_of_mem _ List.mem_cons_self)) hini
  have hU' : vx_Zq Bundle.tN "UNASSIGNED_STACK" Bundle.steD A s' s'.heap := by rw [hhp]; exact vx_Zq.moved hW0.alike (hU.kept hS.2.1)
  have hN' : vx_Zq Bundle.tN "SUPPRESSED_SENTINEL" Bundle.listD A s' s'.heap := by rw [hhp]; exact vx_Zq.moved hW0.alike (hN.kept hS.2.1)
  have h : ∀ w ∈ Bundle.ownAtoms own ic cls names, w.before args s' = true := vx_own hat' (vx_isRefq hU'.1) (vx_isRefq hN'.1) hU'.2.word hN'.2.word
  have hown' : s'.vm.findClass own = some m.cls := by rw [hvm]; exact hown
  have hins : (Cond.instantiable cls 6).before args s' = true := h _ (by simp [Bundle.ownAtoms])
  obtain ⟨vm₁, cX, kX, hfX, hkX, -, -, X₁, st1⟩ := Y.newCold hexec (own := own) (C := cls) (index := ik) (n := 6) hown' hk' hins hini'
    (g := F0 m pc ls rest) rfl (by rw [hb]; exact d0) (Nat.le_refl _) (Nat.le_refl _)
  generalize hT1 : (T.setVm vm₁).pushCell { cls := cX, slots := kX.instanceTypes.map defaultValue, vm := .none } = T1 at X₁ st1
  have hcat : (Value.ref T.heap.size).category = 1 := rfl
  have hcellA : T1.heap[T.heap.size]? = some (freshCell cX kX) := by rw [← hT1]; exact State.heap_pushCell_size _ _
  have d3' : decode c.code (pc + 3) = .ok (.dup, 1) := by rw [hb]; exact d3
  have d4' : decode c.code (pc + 4) = .ok (.ldc_w is, 3) := by rw [hb]; exact d4
  have hstr' : vk_R own is text sa s' := vk_R.warm hW0 hstr
  obtain ⟨U, hsteps, hrun, hend, hW, hsame, ce, hce, hO⟩ := X₁.ctorThrowS hexec htr (own := own) (cls := cls) (names := names) (ic := ic) hown' hcls hnames h (fun x hx => nomatch hx) hfX hkX hcellA (by rw [hhp, hT]; exact Nat.le_refl _) (msg := .ref sa) rfl
    (g := { method := m, pc := pc + 7, locals := ls, stack := .ref sa :: .ref T.heap.size :: .ref T.heap.size :: rest, locked := none }) rfl hsize rfl rfl (rest := rest) rfl
    (by rw [hb]; exact d7) (by rw [hb]; exact d10) hout hRframes (by simp only [List.map_cons, List.sum_cons, hcat]; omega) hlocks
  obtain ⟨f1, f2⟩ := vx_frame hsame
  rw [hhp] at f1 f2
  have hz9 : U.heap.size = H.size + 1 := by
    have z1 : U.heap.size ≤ s'.heap.size + (0 + 1) := hsame.2.2.1
    have z2 : T.heap.size < U.heap.size := (Array.getElem?_eq_some_iff.mp hce).1
    rw [hhp] at z1
    rw [hT] at z2
    omega
  have hWs : s.WarmedH U.vm := State.WarmedH.trans hW0 hW
  have hcl : s.vm.findClass cls = some ce.cls := by
    have h9 := hO.cls
    rw [hvm] at h9
    exact h9
  have hall : s.sameButNew ({ U with vm := s.vm } : State) locs mc ms := by
    subst hA
    obtain ⟨e1, e2⟩ := hsame
    rw [State.setFrames_setFrames] at e1
    have h2 : (T.setVm s.vm).sameButNew ({ U with vm := s.vm } : State) [] (0 + 1) (0 + 6) := ⟨e1, e2⟩
    have h3 := X.same.trans h2
    rw [List.append_nil] at h3
    exact h3.mono hc hs
  refine ⟨U, ?_, .threw T.heap.size, hrun, hend, Or.inr ⟨T.heap.size, rfl, cls, ce, locs, hx U hWs.alike hz9 (fun q hq => f2 q hq (fun z hz => nomatch hz)), hce, hO.vm, hcl, hWs, hall, hf⟩⟩
  refine st1 _ ?_
  show Steps p.tables e below (T1.setTop { method := m, pc := pc + 3, locals := ls, stack := .ref T.heap.size :: rest, locked := none }) _
  jvm_step X₁.here [X₁.here.top, hexec, d3', Value.category]
  exact X₁.ldcStringW hexec (own := own) (text := text) (index := is) (a := sa) hown' hstr'.1 hstr'.2
    (g := { method := m, pc := pc + 4, locals := ls, stack := .ref T.heap.size :: .ref T.heap.size :: rest, locked := none }) rfl d4' _ hsteps
end VY
/-- what a throw of an exception of a class asks of the tables -/
def TL (own : String) (ik ic : Nat) (cls : String) : Prop := Bundle.fit cls = true ∧ Cond.classLink own ik cls ∈ gw ∧ Cond.initialized cls ∈ gw ∧ (∀ w ∈ (vx_atS own ic cls ["java/lang/RuntimeException", "java/lang/Exception"]).filter goodWord, w ∈ lw_tbl) ∧ ∀ w ∈ (vx_atS own ic cls ["java/lang/RuntimeException", "java/lang/Exception"]).filter (fun w => !goodWord w), w ∈ lw_tbl ∧ nw w = true
theorem TL.t4 {own : String} {ik ic : Nat} {cls : String} (h : TL own ik ic cls) : ∀ w ∈ vx_atS own ic cls ["java/lang/RuntimeException", "java/lang/Exception"], w ∈ lw_tbl ∧ (goodWord w || nw w) = true := by
  intro w hw
  cases hg : goodWord w with
  | true => exact ⟨h.2.2.2.1 w (List.mem_filter.mpr ⟨hw, hg⟩), rfl⟩
  | false =>
    have h1 := h.2.2.2.2 w (List.mem_filter.mpr ⟨hw, by rw [hg]; rfl⟩)
    exact ⟨h1.1, h1.2⟩
theorem nw_ot {w : Cond} (h : nw w = true) : w.onTables = true := by cases w <;> first | rfl | exact absurd h (by simp [nw])
theorem gd_ot {w : Cond} (h : goodWord w = true) : vx_ot w = true := by simp [vx_ot, h]
section THROWS
variable {G : Gx} {d : Nat} {md : Md} {pc : Nat} {lo : List (Nat × Value)} {st : List Value} {σ σ' σ1 : Sto} {o : Out}
theorem r_throwS {cls text : String} {ik is ic : Nat} (hT : TL md.1.cls ik ic cls) (hs : (md.1.cls, is, text) ∈ strs) (d0 : decode md.2.1 pc = .ok (.new ik, 3)) (d3 : decode md.2.1 (pc + 3) = .ok (.dup, 1)) (d4 : decode md.2.1 (pc + 4) = .ok (.ldc is, 2)) (d6 : decode md.2.1 (pc + 6) = .ok (.invokespecial ic, 3)) (d9 : decode md.2.1 (pc + 9) = .ok (.athrow, 1)) (hh : md.2.2.2.2 = []) (hd6 : 6 ≤ d) (hst : (st.map fun v => v.category).sum ≤ 8) : J G d md pc lo st σ (.inr cls) (σ.1 ++ [none], σ.2 + 6) := by
  refine ⟨by simp only [List.length_append, List.length_cons, List.length_nil]; omega, fun p e R s m args below meth c ls H locs cells slots mc ms C h1 h2 h3 h4 h5 h6 h7 => ?_⟩
  simp only [List.length_append, List.length_cons, List.length_nil] at h4 h5
  have hts := C.2.2.2.2.2.1
  have hE := C.2.2.2.2.2.2.2.2.2.2.1
  have hfr := C.2.2.2.2.2.2.2.2.2.2.2.1
  have hlo := C.2.2.2.2.2.2.2.2.2.2.2.2.1
  have t4 := hT.t4
  obtain ⟨t1, t2, t3, -⟩ := hT
  obtain ⟨sa, hsa⟩ := hE.2.2.1 _ hs
  have hout : ∀ x ∈ c.exceptionTable.toList, covers x (pc + 9) = false := by
    rw [C.2.2.2.2.2.2.2.2.1, hh]
    intro x hx
    cases hx
  have h8 := cat8 (G := G) hst
  refine vy_throwS (names := ["java/lang/RuntimeException", "java/lang/Exception"]) (rest := st.map (cv G)) (A := AA G) (free := AA G) C.1 C.2.1 C.2.2.2.2.2.2.2.2.2.2.2.2.2 C.2.2.2.2.1 t1 (by decide +kernel) (hts _ t2) (hts _ t3) hsa (fun w hw => ?_) (fun w hw => ?_) hE.2.2.2.1 hE.2.2.2.2.1 h3 (h1.1.trans C.2.2.2.1.symm) d0 d3 d4 d6 d9 hout ?_ ?_ (by omega) (by omega) C.2.2.2.2.2.2.1 (fun t hal hz hq => ⟨⟨rfl, h2.pushO none 6 hz hq (fun e he => by cases he)⟩, ?_, fun q a b => ?_⟩) h3.2.2 (by omega) (by omega)
  · obtain ⟨a, b⟩ := t4 w hw
    rcases Bool.or_eq_true_iff.mp b with b | b
    · exact hts _ (List.mem_filter.mpr ⟨a, b⟩)
    · exact va_Nw.use (nw_ot b) (hE.1 w a b)
  · rcases List.mem_cons.mp hw with e1 | hw
    · subst e1; exact gd_ot (List.mem_filter.mp t2).2
    · rcases List.mem_cons.mp hw with e1 | hw
      · subst e1; exact gd_ot (List.mem_filter.mp t3).2
      · obtain ⟨a, b⟩ := t4 w hw
        rcases Bool.or_eq_true_iff.mp b with b | b
        · exact gd_ot b
        · simp [vx_ot, nw_ot b]
  · simp only [List.length_cons, List.length_nil]; omega
  · simp only [List.length_cons, List.length_nil]; omega
  · have := h3.1; omega
  · rw [hq q (Nat.lt_of_lt_of_le a h3.1)]
    exact h3.2.1 q a b
theorem r_throwSW {cls text : String} {ik is ic : Nat} (hT : TL md.1.cls ik ic cls) (hs : (md.1.cls, is, text) ∈ strs) (d0 : decode md.2.1 pc = .ok (.new ik, 3)) (d3 : decode md.2.1 (pc + 3) = .ok (.dup, 1)) (d4 : decode md.2.1 (pc + 4) = .ok (.ldc_w is, 3)) (d6 : decode md.2.1 (pc + 7) = .ok (.invokespecial ic, 3)) (d9 : decode md.2.1 (pc + 10) = .ok (.athrow, 1)) (hh : md.2.2.2.2 = []) (hd6 : 6 ≤ d) (hst : (st.map fun v => v.category).sum ≤ 8) : J G d md pc lo st σ (.inr cls) (σ.1 ++ [none], σ.2 + 6) := by
  refine ⟨by simp only [List.length_append, List.length_cons, List.length_nil]; omega, fun p e R s m args below meth c ls H locs cells slots mc ms C h1 h2 h3 h4 h5 h6 h7 => ?_⟩
  simp only [List.length_append, List.length_cons, List.length_nil] at h4 h5
  have hts := C.2.2.2.2.2.1
  have hE := C.2.2.2.2.2.2.2.2.2.2.1
  have hfr := C.2.2.2.2.2.2.2.2.2.2.2.1
  have hlo := C.2.2.2.2.2.2.2.2.2.2.2.2.1
  have t4 := hT.t4
  obtain ⟨t1, t2, t3, -⟩ := hT
  obtain ⟨sa, hsa⟩ := hE.2.2.1 _ hs
  have hout : ∀ x ∈ c.exceptionTable.toList, covers x (pc + 10) = false := by
    rw [C.2.2.2.2.2.2.2.2.1, hh]
    intro x hx
    cases hx
  have h8 := cat8 (G := G) hst
  refine vy_throwSW (names := ["java/lang/RuntimeException", "java/lang/Exception"]) (rest := st.map (cv G)) (A := AA G) (free := AA G) C.1 C.2.1 C.2.2.2.2.2.2.2.2.2.2.2.2.2 C.2.2.2.2.1 t1 (by decide +kernel) (hts _ t2) (hts _ t3) hsa (fun w hw => ?_) (fun w hw => ?_) hE.2.2.2.1 hE.2.2.2.2.1 h3 (h1.1.trans C.2.2.2.1.symm) d0 d3 d4 d6 d9 hout ?_ ?_ (by omega) (by omega) C.2.2.2.2.2.2.1 (fun t hal hz hq => ⟨⟨rfl, h2.pushO none 6 hz hq (fun e he => by cases he)⟩, ?_, fun q a b => ?_⟩) h3.2.2 (by omega) (by omega)
  · obtain ⟨a, b⟩ := t4 w hw
    rcases Bool.or_eq_true_iff.mp b with b | b
    · exact hts _ (List.mem_filter.mpr ⟨a, b⟩)
    · exact va_Nw.use (nw_ot b) (hE.1 w a b)
  · rcases List.mem_cons.mp hw with e1 | hw
    · subst e1; exact gd_ot (List.mem_filter.mp t2).2
    · rcases List.mem_cons.mp hw with e1 | hw
      · subst e1; exact gd_ot (List.mem_filter.mp t3).2
      · obtain ⟨a, b⟩ := t4 w hw
        rcases Bool.or_eq_true_iff.mp b with b | b
        · exact gd_ot b
        · simp [vx_ot, nw_ot b]
  · simp only [List.length_cons, List.length_nil]; omega
  · simp only [List.length_cons, List.length_nil]; omega
  · have := h3.1; omega
  · rw [hq q (Nat.lt_of_lt_of_le a h3.1)]
    exact h3.2.1 q a b
def acp (σ : Sto) (a0 : Nat) (sp : Int32) (a : Nat) (dp n : Int32) : Option Sto := (aI (gA σ a0 0)).bind (fun q0 => (aI (gA σ a 0)).bind (fun q1 => if sp < 0 ∨ dp < 0 ∨ n < 0 ∨ q0.1 < sp.toNatClampNeg + n.toNatClampNeg ∨ q1.1 < dp.toNatClampNeg + n.toNatClampNeg then none else some (σ.1.set a (some (.inr (0, (q1.1, .inl (va_cpy q0.2 q1.2 sp.toNatClampNeg dp.toNatClampNeg n.toNatClampNeg))))), σ.2)))
theorem r_acp {a0 a idx : Nat} {sp dp n : Int32} (hd : decode md.2.1 pc = .ok (.invokestatic idx, 3)) (hl : Cond.methodLink md.1.cls idx arraycopyName ∈ gw) (w1 : Cond.native arraycopyName ∈ gw) (w2 : Cond.static arraycopyName ∈ gw) (w3 : Cond.initialized "java/lang/System" ∈ gw) (hd2 : 2 ≤ d) (hst : (st.map fun v => v.category).sum ≤ 8) (h : acp σ a0 sp a dp n = some σ1) (kk : J G d md (pc + 3) lo st σ1 o σ') : J G d md pc lo (.int n :: .int dp :: .ref a :: .int sp :: .ref a0 :: st) σ o σ' := by
  obtain ⟨q0, e1, h⟩ := Option.bind_eq_some_iff.mp h
  obtain ⟨q1, e2, h⟩ := Option.bind_eq_some_iff.mp h
  split at h
  · cases h
  · next hn =>
    cases h
    refine ⟨by have := kk.1; simpa using this, fun p e R s m args below meth c ls H locs cells slots mc ms C h1 h2 h3 h4 h5 h6 h7 => ?_⟩
    have hts := C.2.2.2.2.2.1
    have hK := C.2.2.2.2.2.2.2.2.2.1
    have hfr := C.2.2.2.2.2.2.2.2.2.2.2.1
    have hlo := C.2.2.2.2.2.2.2.2.2.2.2.2.1
    obtain ⟨n1, f⟩ := q0
    obtain ⟨n2, g⟩ := q1
    have c0 : H[ad G a0]? = some (vp_cell (G.2.2.1 0) (n1, .inl f)) := arr_at h2 (aI_at e1)
    have c1 : H[ad G a]? = some (vp_cell (G.2.2.1 0) (n2, .inl g)) := arr_at h2 (aI_at e2)
    have g1 : ¬ sp < 0 := fun z => hn (Or.inl z)
    have g2 : ¬ dp < 0 := fun z => hn (Or.inr (Or.inl z))
    have g3 : ¬ n < 0 := fun z => hn (Or.inr (Or.inr (Or.inl z)))
    have g4 : sp.toNatClampNeg + n.toNatClampNeg ≤ n1 := Nat.not_lt.mp fun z => hn (Or.inr (Or.inr (Or.inr (Or.inl z))))
    have g5 : dp.toNatClampNeg + n.toNatClampNeg ≤ n2 := Nat.not_lt.mp fun z => hn (Or.inr (Or.inr (Or.inr (Or.inr z))))
    have nn : ∀ z : Int32, ¬ z < 0 → z.toInt = (z.toNatClampNeg : Int) := by
      intro z hz
      have hz0 : (0 : Int) ≤ z.toInt := by
        have := Int32.not_lt.mp hz
        simpa using Int32.le_iff_toInt_le.mp this
      show z.toInt = ((z.toInt.toNat : Nat) : Int)
      omega
    intro T hT X
    obtain ⟨-, k0, hk0, cm0, hkk0⟩ := (hK.2 0 _ (tys_at G rfl)).1 n1 (fun j => .int (f j))
    obtain ⟨-, k1, hk1, cm1, hkk1⟩ := (hK.2 0 _ (tys_at G rfl)).1 n2 (fun j => .int (g j))
    have h8 := cat8 (G := G) hst
    have h9 : nativeFrameWords "java/lang/System" "arraycopy" 5 ≤ 40 := by decide +kernel
    obtain ⟨vm', X', step⟩ := X.arraycopy C.1 C.2.2.2.2.1 (hts _ hl) (hts _ w1) (hts _ w2) (hts _ w3) (src := ad G a0) (dst := ad G a) (cs := vp_cell (G.2.2.1 0) (n1, .inl f)) (cd := vp_cell (G.2.2.1 0) (n2, .inl g)) (srcPos := sp) (destPos := dp) (n := n) (by rw [hT]; exact c0) (by rw [hT]; exact c1)
      (fun _ h => by cases h) (fun _ h => by cases h) (fun h => by cases h) (fun h => by cases h) hk0 hk1 hkk0 hkk1 (by simp [refKind]) g1 g2 g3
      (by rw [nn sp g1, nn n g3]; show ¬ _ > ((arrV (G.2.2.1 0) n1 (fun j => .int (f j))).slots.size : Int); rw [arrV_size]; omega)
      (by rw [nn dp g2, nn n g3]; show ¬ _ > ((arrV (G.2.2.1 0) n2 (fun j => .int (g j))).slots.size : Int); rw [arrV_size]; omega)
      (fun vm₁ _ i hi => by
        have e : (vp_cell (G.2.2.1 0) (n1, .inl f)).slots.getD (sp.toNatClampNeg + i) .null = .int (f (sp.toNatClampNeg + i)) := by
          show (arrV (G.2.2.1 0) n1 (fun j => .int (f j))).slots.getD _ _ = _
          rw [Array.getD_eq_getD_getElem?, arrV_read _ _ (by omega)]
          rfl
        rw [e]
        exact ⟨rfl, trivial⟩)
      (g := F0 m pc ls (.int n :: .int dp :: .ref (ad G a) :: .int sp :: .ref (ad G a0) :: st.map (cv G))) rfl (by rw [C.2.2.2.1]; exact h1.1) (rest := st.map (cv G)) rfl (by rw [C.2.1]; exact hd) (by omega) (by show 2 * 0 + _ + (_ + 11) ≤ _; omega)
    have e1' : copied (vp_cell (G.2.2.1 0) (n1, .inl f)) (vp_cell (G.2.2.1 0) (n2, .inl g)) sp dp n = vp_cell (G.2.2.1 0) (n2, .inl (va_cpy f g sp.toNatClampNeg dp.toNatClampNeg n.toNatClampNeg)) := va_copied (fun z => .int z) _ _ f g g4
    rw [e1'] at X' step
    have hl9 : ad G a < H.size := (Array.getElem?_eq_some_iff.mp c1).1
    have hheap : ((T.setVm vm').setCell (ad G a) (vp_cell (G.2.2.1 0) (n2, .inl (va_cpy f g sp.toNatClampNeg dp.toNatClampNeg n.toNatClampNeg)))).heap = H.setIfInBounds (ad G a) (vp_cell (G.2.2.1 0) (n2, .inl (va_cpy f g sp.toNatClampNeg dp.toNatClampNeg n.toNatClampNeg))) := by rw [← hT]; rfl
    have oq : ∀ q : Nat, q ≠ ad G a → (H.setIfInBounds (ad G a) (vp_cell (G.2.2.1 0) (n2, .inl (va_cpy f g sp.toNatClampNeg dp.toNatClampNeg n.toNatClampNeg))))[q]? = H[q]? := fun q hq => by simp [Array.getElem?_setIfInBounds, Ne.symm hq]
    have hA := h2.AA (gA_at (aI_at e2))
    obtain ⟨t, a1, b1⟩ := kk.2 p e R s m args below meth c ls _ _ cells slots mc ms C h1 (h2.set (e := .inr (0, (n2, .inl (va_cpy f g sp.toNatClampNeg dp.toNatClampNeg n.toNatClampNeg)))) (gA_at (aI_at e2)) (H1 := H.setIfInBounds (ad G a) (vp_cell (G.2.2.1 0) (n2, .inl (va_cpy f g sp.toNatClampNeg dp.toNatClampNeg n.toNatClampNeg)))) (by simp) oq (show (H.setIfInBounds (ad G a) _)[ad G a]? = some _ by simp [Array.getElem?_setIfInBounds, hl9]; rfl)) ⟨by simp; exact h3.1, fun q z1 z2 => by
      rw [oq q (fun e => z2 (by rw [e]; exact hA))]
      exact h3.2.1 q z1 z2, fun q hq => by
      rcases List.mem_append.mp hq with h | h
      · exact h3.2.2 q h
      · obtain ⟨z, -, hz⟩ := List.mem_map.mp h
        rw [← hz]
        exact hA⟩ (by simpa using h4) h5 h6 h7 _ hheap X'
    exact ⟨t, step t a1, b1⟩
theorem r_mmax {idx : Nat} {x y : Int32} (hd : decode md.2.1 pc = .ok (.invokestatic idx, 3)) (hl : Cond.methodLink md.1.cls idx Lib.Math.max.name ∈ gw) (w1 : Cond.static Lib.Math.max.name ∈ gw) (w2 : Cond.initialized "java/lang/Math" ∈ gw) (w3 : Cond.code Lib.Math.max.name Lib.Math.max.code 2 (some .int) ∈ gw) (hd1 : 1 ≤ d) (hst : (st.map fun v => v.category).sum ≤ 8) (kk : J G d md (pc + 3) lo (.int (if x < y then y else x) :: st) σ o σ') : J G d md pc lo (.int y :: .int x :: st) σ o σ' := by
  refine ⟨kk.1, fun p e R s m args below meth c ls H locs cells slots mc ms C h1 h2 h3 h4 h5 h6 h7 => ?_⟩
  have hts := C.2.2.2.2.2.1
  have hfr := C.2.2.2.2.2.2.2.2.2.2.2.1
  have hlo := C.2.2.2.2.2.2.2.2.2.2.2.2.1
  have h8 := cat8 (G := G) hst
  exact va_mmax (rest := st.map (cv G)) C.1 C.2.1 (C.2.2.2.1.trans h1.1.symm) C.2.2.2.2.1 (hts _ hl) (hts _ w1) (hts _ w2) (hts _ w3) (by omega) (by omega) (by omega) (by omega) hd (kk.2 p e R s m args below meth c ls H locs cells slots mc ms C h1 h2 h3 h4 h5 h6 h7)
theorem r_mmin {idx : Nat} {x y : Int32} (hd : decode md.2.1 pc = .ok (.invokestatic idx, 3)) (hl : Cond.methodLink md.1.cls idx Lib.Math.min.name ∈ gw) (w1 : Cond.static Lib.Math.min.name ∈ gw) (w2 : Cond.initialized "java/lang/Math" ∈ gw) (w3 : Cond.code Lib.Math.min.name Lib.Math.min.code 2 (some .int) ∈ gw) (hd1 : 1 ≤ d) (hst : (st.map fun v => v.category).sum ≤ 8) (kk : J G d md (pc + 3) lo (.int (if y < x then y else x) :: st) σ o σ') : J G d md pc lo (.int y :: .int x :: st) σ o σ' := by
  refine ⟨kk.1, fun p e R s m args below meth c ls H locs cells slots mc ms C h1 h2 h3 h4 h5 h6 h7 => ?_⟩
  have hts := C.2.2.2.2.2.1
  have hfr := C.2.2.2.2.2.2.2.2.2.2.2.1
  have hlo := C.2.2.2.2.2.2.2.2.2.2.2.2.1
  have h8 := cat8 (G := G) hst
  exact va_mmin (rest := st.map (cv G)) C.1 C.2.1 (C.2.2.2.1.trans h1.1.symm) C.2.2.2.2.1 (hts _ hl) (hts _ w1) (hts _ w2) (hts _ w3) (by omega) (by omega) (by omega) (by omega) hd (kk.2 p e R s m args below meth c ls H locs cells slots mc ms C h1 h2 h3 h4 h5 h6 h7)
end THROWS
