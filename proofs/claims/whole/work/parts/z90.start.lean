/-! ===== THE START: the law's own walk out of its function; printed by wip/whole/gen/mkz.py (the rest of it is the skeleton's) ===== -/
/-! THE CLAIM OUT OF ONE WALK OF THE LAW'S BODY. Your part is whole_start (and what it stands on); all else here is the same for every law, but numbers. -/
def R_law : String := "GossipTablesLaw"
def lw_P (b : Addr) (xs : List Int32) (args : Array Value) (s : State) : Prop := args = #[.ref b] ∧ s.IntsAt b xs ∧ xs.length ≤ 2560 ∧ (Jvm.Cond.and given_1 narrow_1).before args s = true
def lw_Q (_ : Array Value) (s : State) (o : Outcome) (t : State) : Prop := o = .returned (some (.int 1)) ∧ Framed s o t [] room_1.cells room_1.slots
def lw_Z (below : List Frame) (a : Array Value) (s : State) : State → Prop := fun t => ∃ o, t.status = .running ∧ Ended t below o ∧ lw_Q a s o t
/-- the law's own end, with 1 on the stack, nothing written that was there before, its room as the claim has it -/
theorem lw_ret {p : Program} {l : Launch} {e : Env} {s : State} {m : MethodId} {below : List Frame} {meth : Method} {c : Code} {b : Nat} (hx : p.tables.exec = Jvm.exec) (hb : c.code = code) (hr : meth.sig.returnType = ret) (hlocks : meth.locks = false) {pc : Nat} {H : Heap} {ls : Array Slot} (hdg : decode code pc = .ok (.ireturn, 1)) : W p l e room_1 s m #[Value.ref b] below meth c H [] room_1.cells room_1.slots (lw_Z below #[Value.ref b] s) (F0 m pc ls [.int 1]) := by
  intro T hT X
  obtain ⟨fs, hret, hrun, hended, hW, hframe⟩ := X.leave (v := some (.int 1)) (hlocks := hlocks) (fun h => by rw [hr] at h; cases h)
  have hmeth' : T.vm.method? m = some meth := X.method'
  refine ⟨T.setFrames fs, ?_, .returned (some (.int 1)), hrun, hended, rfl, ⟨_, rfl⟩, hW, hframe⟩
  jvm_step X.here [X.here.top, hx, hb, hdg, hmeth', hr, ret, narrow_b1]
  (try refine ⟨rfl, ?_⟩); (try refine ⟨rfl, ?_⟩)
  first | (intro acts; rw [hret _ acts rfl rfl rfl]) | rw [hret _ _ rfl rfl rfl]
  exact Steps.refl _
/-- what holds at the law's entry: the machine, the code, the tables' words (any of lw_tbl by 'hts w (by decide +kernel)'), the script of L ints xs at the cell b, what the Statement gives of the start (any of its parts by flat_of_before) -/
def lw_At (p : Program) (s : State) (m : MethodId) (meth : Method) (c : Code) (b L : Nat) (xs : Nat → Int32) : Prop :=
  p.tables.exec = Jvm.exec ∧ c.code = code ∧ meth.sig.returnType = ret ∧ c.maxLocals = 7 ∧ s.vm.findClass R_law = some m.cls ∧ (∀ w ∈ lw_tbl, w.before #[Value.ref b] s = true) ∧ va_X b L xs s s.heap ∧ b < s.heap.size ∧ meth.locks = false ∧ (Jvm.Cond.and given_1 narrow_1).before #[Value.ref b] s = true ∧ meth.name = "law" ∧ c.exceptionTable.toList = []
theorem ins_0 : Cond.instantiable RX0 6 ∈ gw := gw_in 454 (by decide +kernel) rfl
theorem ins_1 : Cond.instantiable RX1 2 ∈ gw := gw_in 171 (by decide +kernel) rfl
theorem ins_2 : Cond.instantiable RX2 9 ∈ gw := gw_in 164 (by decide +kernel) rfl
theorem ins_3 : Cond.instantiable RX3 7 ∈ gw := gw_in 391 (by decide +kernel) rfl
theorem ins_4 : Cond.instantiable RX4 2 ∈ gw := gw_in 288 (by decide +kernel) rfl
theorem ins_5 : Cond.instantiable RX5 6 ∈ gw := gw_in 384 (by decide +kernel) rfl
theorem ins_6 : Cond.instantiable RX6 7 ∈ gw := gw_in 238 (by decide +kernel) rfl
theorem ins_7 : Cond.instantiable RX7 6 ∈ gw := gw_in 358 (by decide +kernel) rfl
theorem ins_8 : Cond.instantiable RX8 11 ∈ gw := gw_in 158 (by decide +kernel) rfl
theorem ins_9 : Cond.instantiable RX9 6 ∈ gw := gw_in 150 (by decide +kernel) rfl
theorem ins_10 : Cond.instantiable RX10 19 ∈ gw := gw_in 1546 (by decide +kernel) rfl
theorem ao_3 : Cond.arrayOver (.object "GossipTables$EventSet") ∈ lw_tbl := List.mem_of_getElem? (i := 170) (by decide +kernel)
theorem ao_4 : Cond.arrayOver (.object "GossipTables$Site") ∈ lw_tbl := List.mem_of_getElem? (i := 235) (by decide +kernel)
theorem ao_5 : Cond.arrayOver (.object "GossipTables$LetterRow") ∈ lw_tbl := List.mem_of_getElem? (i := 237) (by decide +kernel)
theorem ao_6 : Cond.arrayOver (.object "GossipTables$Letter") ∈ lw_tbl := List.mem_of_getElem? (i := 294) (by decide +kernel)
theorem ao_7 : Cond.arrayOver (.object "GossipTables$World") ∈ lw_tbl := List.mem_of_getElem? (i := 356) (by decide +kernel)
theorem acz_int : Cond.arrayClass .int ∈ gw := gw_in 183 (by decide +kernel) rfl
theorem acz_long : Cond.arrayClass .long ∈ gw := gw_in 2176 (by decide +kernel) rfl
theorem acz_boolean : Cond.arrayClass .boolean ∈ gw := gw_in 287 (by decide +kernel) rfl
def strI : List Nat := [719, 770, 793, 817, 828, 889, 916, 926, 958, 960, 1023, 1051, 1064, 1121, 1170, 1193, 1212, 1227, 1247, 1439, 1464]
theorem str_all : ∀ q ∈ strs, Cond.stringRef q.1 q.2.1 q.2.2 ∈ lw_tbl := by
  have h : strs.map (fun q => Cond.stringRef q.1 q.2.1 q.2.2) = strI.filterMap (fun i => lw_tbl[i]?) := by decide +kernel
  intro q hq
  have h1 : Cond.stringRef q.1 q.2.1 q.2.2 ∈ strs.map (fun q => Cond.stringRef q.1 q.2.1 q.2.2) := List.mem_map.mpr ⟨q, hq, rfl⟩
  rw [h] at h1
  obtain ⟨i, -, hi⟩ := List.mem_filterMap.mp h1
  exact List.mem_of_getElem? hi
theorem xc_all : ∀ a ∈ xcs, ∀ b ∈ xcs, a ≠ b → Cond.not (.castable a b) ∈ flatC (Jvm.Cond.and given_1 narrow_1) := by decide +kernel
theorem st_1 : Cond.isRef (.static Bundle.tN "UNASSIGNED_STACK" Bundle.steD) ∈ flatC (Jvm.Cond.and given_1 narrow_1) := by decide +kernel
theorem st_2 : Cond.isRef (.static Bundle.tN "SUPPRESSED_SENTINEL" Bundle.listD) ∈ flatC (Jvm.Cond.and given_1 narrow_1) := by decide +kernel
theorem st_3 : Cond.laysStatic Bundle.tN "UNASSIGNED_STACK" Bundle.steD ∈ lw_tbl := List.mem_of_getElem? (i := 704) (by decide +kernel)
theorem st_4 : Cond.laysStatic Bundle.tN "SUPPRESSED_SENTINEL" Bundle.listD ∈ lw_tbl := List.mem_of_getElem? (i := 706) (by decide +kernel)
theorem st_5 : Cond.initialized Bundle.tN ∈ gw := gw_in 138 (by decide +kernel) rfl
set_option maxHeartbeats 4000000 in
theorem whole_start {p : Program} {e : Env} {s : State} {m : MethodId} {below : List Frame} {meth : Method} {c : Code} (l : Launch) (hflags : l.flags = flags0) {b L : Nat} {xs : Nat → Int32} (hL : L ≤ 2560) (C0 : lw_At p s m meth c b L xs) : W p l e room_1 s m #[Value.ref b] below meth c s.heap [] 0 0 (lw_Z below #[Value.ref b] s) (entryFrame m ([Value.ref b] : List Value).toArray 7) := by
  obtain ⟨hx, hb, hr, hml, hown, hts, hX, hbl, hlocks, hgv, hname, htab⟩ := id C0
  have htg : ∀ w ∈ gw, w.before #[Value.ref b] s = true := fun w h => hts w (List.mem_filter.mp h).1
  have hfl := flat_of_before _ hgv
  obtain ⟨c0, i0, k0⟩ := u_known (C := RX0) (T := TX0) (N := 6) (n := 6) htg iw_0 (htg _ ins_0)
  obtain ⟨c1, i1, k1⟩ := u_known (C := RX1) (T := TX1) (N := 2) (n := 2) htg iw_1 (htg _ ins_1)
  obtain ⟨c2, i2, k2⟩ := u_known (C := RX2) (T := TX2) (N := 9) (n := 9) htg iw_2 (htg _ ins_2)
  obtain ⟨c3, i3, k3⟩ := u_known (C := RX3) (T := TX3) (N := 7) (n := 7) htg iw_3 (htg _ ins_3)
  obtain ⟨c4, i4, k4⟩ := u_known (C := RX4) (T := TX4) (N := 2) (n := 2) htg iw_4 (htg _ ins_4)
  obtain ⟨c5, i5, k5⟩ := u_known (C := RX5) (T := TX5) (N := 6) (n := 6) htg iw_5 (htg _ ins_5)
  obtain ⟨c6, i6, k6⟩ := u_known (C := RX6) (T := TX6) (N := 7) (n := 7) htg iw_6 (htg _ ins_6)
  obtain ⟨c7, i7, k7⟩ := u_known (C := RX7) (T := TX7) (N := 6) (n := 6) htg iw_7 (htg _ ins_7)
  obtain ⟨c8, i8, k8⟩ := u_known (C := RX8) (T := TX8) (N := 11) (n := 11) htg iw_8 (htg _ ins_8)
  obtain ⟨c9, i9, k9⟩ := u_known (C := RX9) (T := TX9) (N := 6) (n := 6) htg iw_9 (htg _ ins_9)
  obtain ⟨c10, i10, k10⟩ := u_known (C := RX10) (T := TX10) (N := 19) (n := 19) htg iw_10 (htg _ ins_10)
  obtain ⟨a0, b0, d0, e0, f0, g0⟩ := Cond.arrayClass_spec (htg _ acz_int)
  obtain ⟨a1, b1, d1, e1, f1, g1⟩ := Cond.arrayClass_spec (htg _ acz_long)
  obtain ⟨a2, b2, d2, e2, f2, g2⟩ := Cond.arrayClass_spec (htg _ acz_boolean)
  obtain ⟨d3, a3, b3, e3, -, f3, g3, q3⟩ := Cond.arrayOver_spec (hts _ ao_3)
  obtain ⟨d4, a4, b4, e4, -, f4, g4, q4⟩ := Cond.arrayOver_spec (hts _ ao_4)
  obtain ⟨d5, a5, b5, e5, -, f5, g5, q5⟩ := Cond.arrayOver_spec (hts _ ao_5)
  obtain ⟨d6, a6, b6, e6, -, f6, g6, q6⟩ := Cond.arrayOver_spec (hts _ ao_6)
  obtain ⟨d7, a7, b7, e7, -, f7, g7, q7⟩ := Cond.arrayOver_spec (hts _ ao_7)
  obtain ⟨G, hG⟩ : ∃ G : Gx, G = (l, (fun k => ([c0, c1, c2, c3, c4, c5, c6, c7, c8, c9, c10] : List ClassId).getD k c0, fun k => ([i0, i1, i2, i3, i4, i5, i6, i7, i8, i9, i10] : List (Nat → Nat)).getD k i0), fun k => ([a0, a1, a2, a3, a4, a5, a6, a7] : List ClassId).getD k a0, s.heap.size, b, L, xs) := ⟨_, rfl⟩
  have hK : va_K G.2.1 classes (tys G) s := by
    subst hG
    refine ⟨fun k q hq => ?_, fun k q hq => ?_⟩
    · match k, hq with
      | 0, hq => cases hq; exact k0
      | 1, hq => cases hq; exact k1
      | 2, hq => cases hq; exact k2
      | 3, hq => cases hq; exact k3
      | 4, hq => cases hq; exact k4
      | 5, hq => cases hq; exact k5
      | 6, hq => cases hq; exact k6
      | 7, hq => cases hq; exact k7
      | 8, hq => cases hq; exact k8
      | 9, hq => cases hq; exact k9
      | 10, hq => cases hq; exact k10
      | k + 11, hq => simp [classes] at hq
    · match k, hq with
      | 0, hq => cases hq; exact ⟨fun n z => ⟨fun k h => (by cases h), b0, f0, d0, g0⟩, e0⟩
      | 1, hq => cases hq; exact ⟨fun n z => ⟨fun k h => (by cases h), b1, f1, d1, g1⟩, e1⟩
      | 2, hq => cases hq; exact ⟨fun n z => ⟨fun k h => (by cases h), b2, f2, d2, g2⟩, e2⟩
      | 3, hq => cases hq; exact ⟨fun n z => ⟨fun k h => (by cases h), b3, f3, d3, g3⟩, b3, d3, f3, g3, e3, q3⟩
      | 4, hq => cases hq; exact ⟨fun n z => ⟨fun k h => (by cases h), b4, f4, d4, g4⟩, b4, d4, f4, g4, e4, q4⟩
      | 5, hq => cases hq; exact ⟨fun n z => ⟨fun k h => (by cases h), b5, f5, d5, g5⟩, b5, d5, f5, g5, e5, q5⟩
      | 6, hq => cases hq; exact ⟨fun n z => ⟨fun k h => (by cases h), b6, f6, d6, g6⟩, b6, d6, f6, g6, e6, q6⟩
      | 7, hq => cases hq; exact ⟨fun n z => ⟨fun k h => (by cases h), b7, f7, d7, g7⟩, b7, d7, f7, g7, e7, q7⟩
      | k + 8, hq => simp [tys, kindsL] at hq
  have hbs : G.bs = s.heap.size := by subst hG; rfl
  have hnA : ∀ a : Nat, a < s.heap.size → ¬ AA G a := fun a h => by show ¬ G.bs ≤ a; omega
  have hE : EV G s s.heap := by
    refine ⟨fun w hw hn => va_Nw.of (nw_ot hn) (hts w hw), ?_, fun q hq => ?_, vx_Zqof (hts _ st_3) (htg _ st_5) (hfl _ st_1) hnA, vx_Zqof (hts _ st_4) (htg _ st_5) (hfl _ st_2) hnA, ?_, ?_, by rw [hbs]; exact Nat.le_refl _, fun x hx y hy hn => va_Nc.of (hfl _ (xc_all x hx y hy hn))⟩
    · intro C hC
      simp only [aos, List.mem_cons, List.not_mem_nil, or_false] at hC
      rcases hC with rfl | rfl | rfl | rfl | rfl
      · exact va_AO.of (hts _ ao_3)
      · exact va_AO.of (hts _ ao_4)
      · exact va_AO.of (hts _ ao_5)
      · exact va_AO.of (hts _ ao_6)
      · exact va_AO.of (hts _ ao_7)
    · have h1 := hts _ (str_all q hq)
      have hcur : ∃ cur, s.vm.findClass q.1 = some cur := by
        have h2 := h1
        simp only [Cond.before, Cond.holds, Cond.value] at h2
        cases hc : s.vm.findClass q.1 with
        | none => simp [hc] at h2
        | some cur => exact ⟨cur, rfl⟩
      obtain ⟨cur, hcur⟩ := hcur
      obtain ⟨_, _, _, a, -, -, -, -, -, hev⟩ := Cond.stringRef_spec hcur h1
      exact ⟨a, vk_R.of h1 hev⟩
    · subst hG; exact hX
    · rw [hbs]; subst hG; exact hbl
  have hGl : G.1 = l := by subst hG; rfl
  have hst : G.1.stackTraces = false := by
    rw [hGl, Launch.stackTraces, hflags]
    decide +kernel
  have hGL : G.sl = L := by subst hG; rfl
  have hGx : G.sx = xs := by subst hG; rfl
  have hGa : G.sa = b := by subst hG; rfl
  obtain ⟨σ', hF, hn1, hn2⟩ := law_pure L xs hL
  rw [← hGL, ← hGx] at hF
  have hJ := j_L_law (d := 2000) hst (by decide) hF
  have hRp : Rp G ([none], 0) s.heap := ⟨rfl, by rw [hbs]; rfl, fun k e h => by
    cases k with
    | zero => cases h
    | succ k => cases h⟩
  have hl1 := lv_entry ([.ref b]) (n := 7) (Nat.le_of_ble_eq_true rfl)
  rw [lg_entry_eq]
  have hJ2 := hJ.2 p e room_1 s m #[Value.ref b] below meth c _ s.heap [] 0 0 room_1.cells room_1.slots ⟨hx, hb, hr, hml, hown, htg, hlocks, hname, htab, hK, hE, Nat.le_of_ble_eq_true rfl, Nat.le_of_ble_eq_true rfl, hst⟩ (by
    have h9 : lv_args 0 [Value.ref b] = ([(0, .ref 0)] : List (Nat × Value)).map fun q => (q.1, cv G q.2) := by
      show [(0, Value.ref b)] = [(0, Value.ref G.sa)]
      rw [hGa]
    rw [← h9]
    exact hl1) hRp va_S.rf (Nat.le_trans (show 0 + (σ'.1.length - 1) ≤ 20000 by omega) (Nat.le_of_ble_eq_true rfl)) (Nat.le_trans (show 0 + (σ'.2 - 0) ≤ 2000000 by omega) (Nat.le_of_ble_eq_true rfl)) (Nat.le_refl _) (Nat.le_refl _)
  rw [hGl] at hJ2
  intro T hT X
  obtain ⟨t, h1, o, h2, h3, h4⟩ := hJ2 T hT X
  refine ⟨t, h1, o, h2, h3, ?_⟩
  rcases h4 with ⟨⟨⟨v, hv, ho, -⟩, -⟩, Ls, ⟨hv2, hW, hsame⟩, hLs⟩ | ⟨q, -, E, ce, Ls, ⟨⟨hbad, -⟩, -⟩, -⟩
  · cases hv
    refine ⟨ho, hv2, hW, hsame.weaken (fun y hy hlt => ?_) (Nat.le_refl _) (Nat.le_refl _)⟩
    have h9 := hLs y hy
    have h10 : G.bs ≤ y.base := h9
    have h11 : y.base < G.bs := by rw [hbs]; exact hlt
    exact absurd h10 (Nat.not_le.mpr h11)
  · cases hbad
