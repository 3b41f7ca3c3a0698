/-! ===== FACTS: printed by wip/whole/gen/emit.py ===== -/
theorem dl_ok {c : ByteArray} {l : List (Nat × Instr × Nat)} (h : l.all (fun q => decide (decode c q.1 = .ok q.2)) = true) {i pc : Nat} {ins : Instr} {len : Nat} (hi : l[i]? = some (pc, ins, len)) : decode c pc = .ok (ins, len) := by
  have h1 := List.all_eq_true.mp h _ (List.mem_of_getElem? hi)
  simpa using h1
theorem inr_gw {ws : List Cond} (ps : List Nat) (h : ws = ps.filterMap (fun i => lw_tbl[i]?)) (hg : ws.all goodWord = true) : ∀ w ∈ ws, w ∈ gw := by
  intro w hw
  have h1 := List.all_eq_true.mp hg w hw
  rw [h] at hw
  obtain ⟨i, -, hi⟩ := List.mem_filterMap.mp hw
  exact gw_in i hi h1
theorem str_in (i : Nat) {q : String × Nat × String} (h : strs[i]? = some q) : q ∈ strs := List.mem_of_getElem? h
def fu : Nat := 60000
def chk {ρ : Type} (σ : Sto) (a ci : Nat) (k : Option ρ) : Option ρ := if (gO σ a ci).isSome = true then k else none
theorem chk_some {ρ : Type} {σ : Sto} {a ci : Nat} {k : Option ρ} {r : ρ} (h : chk σ a ci k = some r) : (gO σ a ci).isSome = true ∧ k = some r := by
  unfold chk at h
  split at h
  · next c => exact ⟨c, h⟩
  · cases h
def oe {α ρ : Type} (x : Option α) (a : Option ρ) (b : α → Option ρ) : Option ρ := match x with
  | none => a
  | some y => b y
def jn {φ ρ : Type} (f : φ) (g : φ → Option ρ) : Option ρ := g f
theorem jn_elim {φ ρ : Type} {f : φ} {g : φ → Option ρ} {r : ρ} {goal : Prop} (h : jn f g = some r) {Q : φ → Prop} (hf : Q f) (k : ∀ j, Q j → g j = some r → goal) : goal := k f hf h
def nw_ {ρ : Type} (σ : Sto) (e : Ent) (N : Nat) (k : Nat → Sto → Option ρ) : Option ρ := k σ.1.length (σ.1 ++ [some e], σ.2 + N)
theorem nw_some {ρ : Type} {σ : Sto} {e : Ent} {N : Nat} {k : Nat → Sto → Option ρ} {r : ρ} (h : nw_ σ e N k = some r) : ∃ (p : Nat) (s : Sto), p = σ.1.length ∧ s = (σ.1 ++ [some e], σ.2 + N) ∧ k p s = some r := ⟨_, _, rfl, rfl, h⟩
def wb {α ρ : Type} (x : Option (α × Sto)) (k : α → Sto → Option ρ) : Option ρ := x.bind (fun q => k q.1 q.2)
theorem wb_some {α ρ : Type} {x : Option (α × Sto)} {k : α → Sto → Option ρ} {r : ρ} (h : wb x k = some r) : ∃ (v : α) (s : Sto), x = some (v, s) ∧ k v s = some r := by
  obtain ⟨q, h1, h2⟩ := Option.bind_eq_some_iff.mp h
  exact ⟨q.1, q.2, h1, h2⟩
def tb {α β : Type} (x : Option ((α ⊕ String) × Sto)) (k : α → Sto → Option ((β ⊕ String) × Sto)) : Option ((β ⊕ String) × Sto) := x.bind (fun q => match q.1 with
  | .inl v => k v q.2
  | .inr E => some (.inr E, q.2))
theorem tb_some {α β : Type} {x : Option ((α ⊕ String) × Sto)} {k : α → Sto → Option ((β ⊕ String) × Sto)} {r : (β ⊕ String) × Sto} (h : tb x k = some r) : (∃ (v : α) (s : Sto), x = some (.inl v, s) ∧ k v s = some r) ∨ ∃ (E : String) (s : Sto), x = some (.inr E, s) ∧ r = (.inr E, s) := by
  obtain ⟨q, h1, h2⟩ := Option.bind_eq_some_iff.mp h
  obtain ⟨q1, q2⟩ := q
  cases q1 with
  | inl v => exact Or.inl ⟨v, q2, h1, h2⟩
  | inr E => exact Or.inr ⟨E, q2, h1, (Option.some.inj h2).symm⟩
def tc {α ρ : Type} (x : Option ((α ⊕ String) × Sto)) (k : α → Sto → Option ρ) (c : String → Sto → Option ρ) : Option ρ := x.bind (fun q => match q.1 with
  | .inl v => k v q.2
  | .inr E => c E q.2)
theorem tc_some {α ρ : Type} {x : Option ((α ⊕ String) × Sto)} {k : α → Sto → Option ρ} {c : String → Sto → Option ρ} {r : ρ} (h : tc x k c = some r) : (∃ (v : α) (s : Sto), x = some (.inl v, s) ∧ k v s = some r) ∨ ∃ (E : String) (s : Sto), x = some (.inr E, s) ∧ c E s = some r := by
  obtain ⟨q, h1, h2⟩ := Option.bind_eq_some_iff.mp h
  obtain ⟨q1, q2⟩ := q
  cases q1 with
  | inl v => exact Or.inl ⟨v, q2, h1, h2⟩
  | inr E => exact Or.inr ⟨E, q2, h1, h2⟩
def sld (L : Nat) (xs : Nat → Int32) (i : Int32) : Option Int32 := if i < 0 ∨ L ≤ i.toNatClampNeg then none else some (xs i.toNatClampNeg)
theorem sld_some {L : Nat} {xs : Nat → Int32} {i x : Int32} (h : sld L xs i = some x) : vp_in i L ∧ x = xs i.toNatClampNeg := by
  unfold sld at h
  split at h
  · cases h
  · next hn => exact ⟨hn, (Option.some.inj h).symm⟩
def toI (x : Int32 ⊕ String) : Out := match x with
  | .inl v => .inl (some (.int v))
  | .inr E => .inr E
def toU (x : Unit ⊕ String) : Out := match x with
  | .inl _ => .inl none
  | .inr E => .inr E
theorem r_pick {G : Gx} {d : Nat} {md : Md} {pc : Nat} {lo lo' : List (Nat × Value)} {st : List Value} {σ σ' : Sto} {o : Out} (ps : List Nat) (h : lv_pick lo ps = lo') (k : J G d md pc lo' st σ o σ') : J G d md pc lo st σ o σ' := by
  refine ⟨k.1, fun p e R s m args below meth c ls H locs cells slots mc ms C h1 h2 h3 h4 h5 h6 h7 => k.2 p e R s m args below meth c ls H locs cells slots mc ms C ⟨h1.1, h1.2.1, fun q hq => ?_⟩ h2 h3 h4 h5 h6 h7⟩
  obtain ⟨x, hx, rfl⟩ := List.mem_map.mp hq
  refine h1.2.2 _ (List.mem_map.mpr ⟨x, ?_, rfl⟩)
  rw [← h] at hx
  obtain ⟨i, -, hi⟩ := List.mem_filterMap.mp hx
  exact List.mem_of_getElem? hi
theorem ts_outL {x : Int32} {n : Nat} {lw : Nat} (h : ∀ k, k < n → ¬ x = Int32.ofNat (lw + k)) (hn : lw + n < 2 ^ 31) : x.toInt < (lw : Int) ∨ (lw : Int) + (n : Int) - 1 < x.toInt := by
  rcases Int.lt_or_le x.toInt lw with h1 | h1
  · exact Or.inl h1
  · rcases Int.lt_or_le ((lw : Int) + (n : Int) - 1) x.toInt with h2 | h2
    · exact Or.inr h2
    · exfalso
      refine h (x.toInt - lw).toNat (by omega) ?_
      apply Int32.toInt_inj.mp
      have h3 : (Int32.ofNat (lw + (x.toInt - lw).toNat)).toInt = ((lw + (x.toInt - lw).toNat : Nat) : Int) := nI_toInt (by omega)
      rw [h3]
      omega
theorem ts_out {x : Int32} {n : Nat} (h : ∀ k, k < n → ¬ x = Int32.ofNat k) (hn : n < 2 ^ 31) : x.toInt < 0 ∨ (n : Int) - 1 < x.toInt := by
  have h1 := ts_outL (x := x) (n := n) (lw := 0) (fun k hk => by rw [Nat.zero_add]; exact h k hk) (by omega)
  simpa using h1
theorem kbipush_6 : (Int8.ofInt (6)).toInt32 = (6 : Int32) := by decide +kernel
theorem kbipush_7 : (Int8.ofInt (7)).toInt32 = (7 : Int32) := by decide +kernel
theorem kbipush_8 : (Int8.ofInt (8)).toInt32 = (8 : Int32) := by decide +kernel
theorem kbipush_9 : (Int8.ofInt (9)).toInt32 = (9 : Int32) := by decide +kernel
theorem kbipush_10 : (Int8.ofInt (10)).toInt32 = (10 : Int32) := by decide +kernel
theorem kbipush_12 : (Int8.ofInt (12)).toInt32 = (12 : Int32) := by decide +kernel
theorem kbipush_16 : (Int8.ofInt (16)).toInt32 = (16 : Int32) := by decide +kernel
theorem kbipush_25 : (Int8.ofInt (25)).toInt32 = (25 : Int32) := by decide +kernel
theorem kbipush_28 : (Int8.ofInt (28)).toInt32 = (28 : Int32) := by decide +kernel
theorem kbipush_29 : (Int8.ofInt (29)).toInt32 = (29 : Int32) := by decide +kernel
theorem kbipush_32 : (Int8.ofInt (32)).toInt32 = (32 : Int32) := by decide +kernel
theorem kbipush_33 : (Int8.ofInt (33)).toInt32 = (33 : Int32) := by decide +kernel
theorem kbipush_34 : (Int8.ofInt (34)).toInt32 = (34 : Int32) := by decide +kernel
theorem kbipush_60 : (Int8.ofInt (60)).toInt32 = (60 : Int32) := by decide +kernel
theorem kbipush_63 : (Int8.ofInt (63)).toInt32 = (63 : Int32) := by decide +kernel
theorem kbipush_64 : (Int8.ofInt (64)).toInt32 = (64 : Int32) := by decide +kernel
theorem kbipush_100 : (Int8.ofInt (100)).toInt32 = (100 : Int32) := by decide +kernel
theorem kbipush_120 : (Int8.ofInt (120)).toInt32 = (120 : Int32) := by decide +kernel
theorem kbipush_122 : (Int8.ofInt (122)).toInt32 = (122 : Int32) := by decide +kernel
theorem kbipush_127 : (Int8.ofInt (127)).toInt32 = (127 : Int32) := by decide +kernel
theorem kiconst_m1 : Int32.ofInt (-1) = (-1 : Int32) := by decide +kernel
theorem kiconst_0 : Int32.ofInt (0) = (0 : Int32) := by decide +kernel
theorem kiconst_1 : Int32.ofInt (1) = (1 : Int32) := by decide +kernel
theorem kiconst_2 : Int32.ofInt (2) = (2 : Int32) := by decide +kernel
theorem kiconst_3 : Int32.ofInt (3) = (3 : Int32) := by decide +kernel
theorem kiconst_4 : Int32.ofInt (4) = (4 : Int32) := by decide +kernel
theorem kiconst_5 : Int32.ofInt (5) = (5 : Int32) := by decide +kernel
theorem kinc_m1 (x : Int32) : x + Int32.ofInt (-1) = x + (-1 : Int32) := by rw [show Int32.ofInt (-1) = (-1 : Int32) from by decide +kernel]
theorem kinc_1 (x : Int32) : x + Int32.ofInt (1) = x + (1 : Int32) := by rw [show Int32.ofInt (1) = (1 : Int32) from by decide +kernel]
theorem kinc_5 (x : Int32) : x + Int32.ofInt (5) = x + (5 : Int32) := by rw [show Int32.ofInt (5) = (5 : Int32) from by decide +kernel]
theorem kinc_32 (x : Int32) : x + Int32.ofInt (32) = x + (32 : Int32) := by rw [show Int32.ofInt (32) = (32 : Int32) from by decide +kernel]
theorem klconst_0 : Int64.ofNat ((0 : Fin 2) : Nat) = (0 : Int64) := by decide +kernel
theorem klconst_1 : Int64.ofNat ((1 : Fin 2) : Nat) = (1 : Int64) := by decide +kernel
theorem ksipush_128 : (Int16.ofInt (128)).toInt32 = (128 : Int32) := by decide +kernel
theorem ksipush_147 : (Int16.ofInt (147)).toInt32 = (147 : Int32) := by decide +kernel
theorem ksipush_154 : (Int16.ofInt (154)).toInt32 = (154 : Int32) := by decide +kernel
theorem ksipush_274 : (Int16.ofInt (274)).toInt32 = (274 : Int32) := by decide +kernel
theorem ksipush_394 : (Int16.ofInt (394)).toInt32 = (394 : Int32) := by decide +kernel
theorem ksipush_395 : (Int16.ofInt (395)).toInt32 = (395 : Int32) := by decide +kernel
theorem ksipush_789 : (Int16.ofInt (789)).toInt32 = (789 : Int32) := by decide +kernel
theorem ksipush_3953 : (Int16.ofInt (3953)).toInt32 = (3953 : Int32) := by decide +kernel
theorem ksipush_4096 : (Int16.ofInt (4096)).toInt32 = (4096 : Int32) := by decide +kernel
theorem ksipush_5153 : (Int16.ofInt (5153)).toInt32 = (5153 : Int32) := by decide +kernel
theorem ksipush_5178 : (Int16.ofInt (5178)).toInt32 = (5178 : Int32) := by decide +kernel
theorem w_acp1 : Cond.native arraycopyName ∈ gw := gw_in 945 (by decide +kernel) rfl
theorem w_acp2 : Cond.static arraycopyName ∈ gw := gw_in 944 (by decide +kernel) rfl
theorem w_acp3 : Cond.initialized "java/lang/System" ∈ gw := gw_in 145 (by decide +kernel) rfl
theorem w_obj1 : Cond.instanceMethod Lib.objectInit ∈ gw := gw_in 155 (by decide +kernel) rfl
theorem w_obj2 : Cond.code Lib.objectInit ⟨#[0xb1]⟩ 1 none ∈ gw := gw_in 156 (by decide +kernel) rfl
theorem w_mmax1 : Cond.static Lib.Math.max.name ∈ gw := gw_in 1384 (by decide +kernel) rfl
theorem w_mmax3 : Cond.code Lib.Math.max.name Lib.Math.max.code 2 (some .int) ∈ gw := gw_in 1385 (by decide +kernel) rfl
theorem w_mmin1 : Cond.static Lib.Math.min.name ∈ gw := gw_in 548 (by decide +kernel) rfl
theorem w_mmin3 : Cond.code Lib.Math.min.name Lib.Math.min.code 2 (some .int) ∈ gw := gw_in 549 (by decide +kernel) rfl
theorem w_math2 : Cond.initialized "java/lang/Math" ∈ gw := gw_in 147 (by decide +kernel) rfl
theorem iw_0 : ∀ w ∈ u_ws RX0 TX0 6, w ∈ gw := inr_gw [466, 468, 470, 472, 474, 476] (by decide +kernel) (by decide +kernel)
def dfl_0 : List Value := [.int 0, .int 0, .null, .null, .null, .null]
theorem iw_1 : ∀ w ∈ u_ws RX1 TX1 2, w ∈ gw := inr_gw [178, 180] (by decide +kernel) (by decide +kernel)
def dfl_1 : List Value := [.long 0, .long 0]
theorem iw_2 : ∀ w ∈ u_ws RX2 TX2 9, w ∈ gw := inr_gw [215, 217, 219, 221, 223, 225, 227, 229, 231] (by decide +kernel) (by decide +kernel)
def dfl_2 : List Value := [.int 0, .null, .null, .null, .null, .null, .null, .null, .null]
theorem iw_3 : ∀ w ∈ u_ws RX3 TX3 7, w ∈ gw := inr_gw [418, 420, 422, 424, 426, 428, 430] (by decide +kernel) (by decide +kernel)
def dfl_3 : List Value := [.int 0, .int 0, .int 0, .int 0, .null, .null, .null]
theorem iw_4 : ∀ w ∈ u_ws RX4 TX4 2, w ∈ gw := inr_gw [300, 302] (by decide +kernel) (by decide +kernel)
def dfl_4 : List Value := [.int 0, .null]
theorem iw_5 : ∀ w ∈ u_ws RX5 TX5 6, w ∈ gw := inr_gw [440, 442, 444, 446, 448, 450] (by decide +kernel) (by decide +kernel)
def dfl_5 : List Value := [.null, .null, .null, .null, .null, .null]
theorem iw_6 : ∀ w ∈ u_ws RX6 TX6 7, w ∈ gw := inr_gw [272, 274, 276, 278, 280, 282, 284] (by decide +kernel) (by decide +kernel)
def dfl_6 : List Value := [.null, .null, .null, .int 0, .null, .null, .null]
theorem iw_7 : ∀ w ∈ u_ws RX7 TX7 6, w ∈ gw := inr_gw [370, 372, 374, 376, 378, 380] (by decide +kernel) (by decide +kernel)
def dfl_7 : List Value := [.int 0, .int 0, .null, .null, .null, .null]
theorem iw_8 : ∀ w ∈ u_ws RX8 TX8 11, w ∈ gw := inr_gw [333, 335, 337, 339, 341, 343, 345, 347, 349, 351, 353] (by decide +kernel) (by decide +kernel)
def dfl_8 : List Value := [.int 0, .int 0, .int 0, .int 0, .int 0, .int 0, .null, .null, .null, .null, .null]
theorem iw_9 : ∀ w ∈ u_ws RX9 TX9 6, w ∈ gw := inr_gw [485, 487, 489, 491, 493, 495] (by decide +kernel) (by decide +kernel)
def dfl_9 : List Value := [.null, .null, .null, .null, .null, .long 0]
theorem iw_10 : ∀ w ∈ u_ws RX10 TX10 19, w ∈ gw := inr_gw [1576, 1578, 1580, 1582, 1584, 1586, 1588, 1590, 1592, 1594, 1596, 1598, 1600, 1602, 1604, 1606, 1608, 1610, 1612] (by decide +kernel) (by decide +kernel)
def dfl_10 : List Value := [.int 0, .null, .null, .int 0, .null, .int 0, .null, .long 0, .null, .null, .null, .null, .int 0, .int 0, .null, .null, .null, .null, .null]
theorem pn_RJ13 : plainName RJ13 = true := by decide +kernel
theorem pn_RJ6 : plainName RJ6 = true := by decide +kernel
theorem pn_RL : plainName RL = true := by decide +kernel
theorem pn_RX0 : plainName RX0 = true := by decide +kernel
theorem pn_RX1 : plainName RX1 = true := by decide +kernel
theorem pn_RX10 : plainName RX10 = true := by decide +kernel
theorem pn_RX2 : plainName RX2 = true := by decide +kernel
theorem pn_RX3 : plainName RX3 = true := by decide +kernel
theorem pn_RX4 : plainName RX4 = true := by decide +kernel
theorem pn_RX5 : plainName RX5 = true := by decide +kernel
theorem pn_RX6 : plainName RX6 = true := by decide +kernel
theorem pn_RX7 : plainName RX7 = true := by decide +kernel
theorem pn_RX8 : plainName RX8 = true := by decide +kernel
theorem pn_RX9 : plainName RX9 = true := by decide +kernel
theorem ac_boolean : Cond.arrayClass .boolean ∈ gw := gw_in 287 (by decide +kernel) rfl
theorem ac_int : Cond.arrayClass .int ∈ gw := gw_in 183 (by decide +kernel) rfl
theorem ac_long : Cond.arrayClass .long ∈ gw := gw_in 2176 (by decide +kernel) rfl
theorem fl_RX0_11 : FL RX0 11 0 3 := ⟨RX0, TX0, 6, rfl, iw_0, by decide, gw_in 463 (by decide +kernel) rfl⟩
theorem fl_RX0_15 : FL RX0 15 0 4 := ⟨RX0, TX0, 6, rfl, iw_0, by decide, gw_in 464 (by decide +kernel) rfl⟩
theorem fl_RX0_18 : FL RX0 18 0 5 := ⟨RX0, TX0, 6, rfl, iw_0, by decide, gw_in 465 (by decide +kernel) rfl⟩
theorem fl_RX0_21 : FL RX0 21 0 2 := ⟨RX0, TX0, 6, rfl, iw_0, by decide, gw_in 462 (by decide +kernel) rfl⟩
theorem fl_RX0_25 : FL RX0 25 0 0 := ⟨RX0, TX0, 6, rfl, iw_0, by decide, gw_in 459 (by decide +kernel) rfl⟩
theorem fl_RX0_29 : FL RX0 29 8 0 := ⟨RX8, TX8, 11, rfl, iw_8, by decide, gw_in 307 (by decide +kernel) rfl⟩
theorem fl_RX0_49 : FL RX0 49 0 1 := ⟨RX0, TX0, 6, rfl, iw_0, by decide, gw_in 461 (by decide +kernel) rfl⟩
theorem fl_RX0_52 : FL RX0 52 8 6 := ⟨RX8, TX8, 11, rfl, iw_8, by decide, gw_in 323 (by decide +kernel) rfl⟩
theorem fl_RX0_56 : FL RX0 56 2 0 := ⟨RX2, TX2, 9, rfl, iw_2, by decide, gw_in 186 (by decide +kernel) rfl⟩
theorem fl_RX0_61 : FL RX0 61 8 7 := ⟨RX8, TX8, 11, rfl, iw_8, by decide, gw_in 327 (by decide +kernel) rfl⟩
theorem fl_RX0_65 : FL RX0 65 6 1 := ⟨RX6, TX6, 7, rfl, iw_6, by decide, gw_in 251 (by decide +kernel) rfl⟩
theorem fl_RX1_9 : FL RX1 9 1 0 := ⟨RX1, TX1, 2, rfl, iw_1, by decide, gw_in 176 (by decide +kernel) rfl⟩
theorem fl_RX1_15 : FL RX1 15 1 1 := ⟨RX1, TX1, 2, rfl, iw_1, by decide, gw_in 177 (by decide +kernel) rfl⟩
theorem fl_RX10_1 : FL RX10 1 10 0 := ⟨RX10, TX10, 19, rfl, iw_10, by decide, gw_in 1557 (by decide +kernel) rfl⟩
theorem fl_RX10_14 : FL RX10 14 10 1 := ⟨RX10, TX10, 19, rfl, iw_10, by decide, gw_in 1558 (by decide +kernel) rfl⟩
theorem fl_RX10_18 : FL RX10 18 10 2 := ⟨RX10, TX10, 19, rfl, iw_10, by decide, gw_in 1559 (by decide +kernel) rfl⟩
theorem fl_RX10_22 : FL RX10 22 10 4 := ⟨RX10, TX10, 19, rfl, iw_10, by decide, gw_in 1561 (by decide +kernel) rfl⟩
theorem fl_RX10_25 : FL RX10 25 10 6 := ⟨RX10, TX10, 19, rfl, iw_10, by decide, gw_in 1563 (by decide +kernel) rfl⟩
theorem fl_RX10_28 : FL RX10 28 10 8 := ⟨RX10, TX10, 19, rfl, iw_10, by decide, gw_in 1565 (by decide +kernel) rfl⟩
theorem fl_RX10_31 : FL RX10 31 10 9 := ⟨RX10, TX10, 19, rfl, iw_10, by decide, gw_in 1566 (by decide +kernel) rfl⟩
theorem fl_RX10_34 : FL RX10 34 10 10 := ⟨RX10, TX10, 19, rfl, iw_10, by decide, gw_in 1567 (by decide +kernel) rfl⟩
theorem fl_RX10_37 : FL RX10 37 10 11 := ⟨RX10, TX10, 19, rfl, iw_10, by decide, gw_in 1568 (by decide +kernel) rfl⟩
theorem fl_RX10_40 : FL RX10 40 10 14 := ⟨RX10, TX10, 19, rfl, iw_10, by decide, gw_in 1571 (by decide +kernel) rfl⟩
theorem fl_RX10_43 : FL RX10 43 10 15 := ⟨RX10, TX10, 19, rfl, iw_10, by decide, gw_in 1572 (by decide +kernel) rfl⟩
theorem fl_RX10_46 : FL RX10 46 10 16 := ⟨RX10, TX10, 19, rfl, iw_10, by decide, gw_in 1573 (by decide +kernel) rfl⟩
theorem fl_RX10_49 : FL RX10 49 10 17 := ⟨RX10, TX10, 19, rfl, iw_10, by decide, gw_in 1574 (by decide +kernel) rfl⟩
theorem fl_RX10_52 : FL RX10 52 10 18 := ⟨RX10, TX10, 19, rfl, iw_10, by decide, gw_in 1575 (by decide +kernel) rfl⟩
theorem fl_RX10_59 : FL RX10 59 10 3 := ⟨RX10, TX10, 19, rfl, iw_10, by decide, gw_in 1560 (by decide +kernel) rfl⟩
theorem fl_RX10_83 : FL RX10 83 10 5 := ⟨RX10, TX10, 19, rfl, iw_10, by decide, gw_in 1562 (by decide +kernel) rfl⟩
theorem fl_RX10_250 : FL RX10 250 10 7 := ⟨RX10, TX10, 19, rfl, iw_10, by decide, gw_in 1564 (by decide +kernel) rfl⟩
theorem fl_RX10_339 : FL RX10 339 10 12 := ⟨RX10, TX10, 19, rfl, iw_10, by decide, gw_in 1569 (by decide +kernel) rfl⟩
theorem fl_RX10_342 : FL RX10 342 10 13 := ⟨RX10, TX10, 19, rfl, iw_10, by decide, gw_in 1570 (by decide +kernel) rfl⟩
theorem fl_RX2_9 : FL RX2 9 2 1 := ⟨RX2, TX2, 9, rfl, iw_2, by decide, gw_in 189 (by decide +kernel) rfl⟩
theorem fl_RX2_15 : FL RX2 15 2 2 := ⟨RX2, TX2, 9, rfl, iw_2, by decide, gw_in 193 (by decide +kernel) rfl⟩
theorem fl_RX2_18 : FL RX2 18 2 3 := ⟨RX2, TX2, 9, rfl, iw_2, by decide, gw_in 197 (by decide +kernel) rfl⟩
theorem fl_RX2_21 : FL RX2 21 2 4 := ⟨RX2, TX2, 9, rfl, iw_2, by decide, gw_in 201 (by decide +kernel) rfl⟩
theorem fl_RX2_24 : FL RX2 24 2 5 := ⟨RX2, TX2, 9, rfl, iw_2, by decide, gw_in 204 (by decide +kernel) rfl⟩
theorem fl_RX2_27 : FL RX2 27 2 6 := ⟨RX2, TX2, 9, rfl, iw_2, by decide, gw_in 207 (by decide +kernel) rfl⟩
theorem fl_RX2_30 : FL RX2 30 2 7 := ⟨RX2, TX2, 9, rfl, iw_2, by decide, gw_in 210 (by decide +kernel) rfl⟩
theorem fl_RX2_35 : FL RX2 35 2 8 := ⟨RX2, TX2, 9, rfl, iw_2, by decide, gw_in 213 (by decide +kernel) rfl⟩
theorem fl_RX2_40 : FL RX2 40 2 0 := ⟨RX2, TX2, 9, rfl, iw_2, by decide, gw_in 184 (by decide +kernel) rfl⟩
theorem fl_RX3_9 : FL RX3 9 3 4 := ⟨RX3, TX3, 7, rfl, iw_3, by decide, gw_in 410 (by decide +kernel) rfl⟩
theorem fl_RX3_15 : FL RX3 15 3 6 := ⟨RX3, TX3, 7, rfl, iw_3, by decide, gw_in 416 (by decide +kernel) rfl⟩
theorem fl_RX3_18 : FL RX3 18 3 5 := ⟨RX3, TX3, 7, rfl, iw_3, by decide, gw_in 413 (by decide +kernel) rfl⟩
theorem fl_RX3_22 : FL RX3 22 3 0 := ⟨RX3, TX3, 7, rfl, iw_3, by decide, gw_in 398 (by decide +kernel) rfl⟩
theorem fl_RX3_26 : FL RX3 26 3 1 := ⟨RX3, TX3, 7, rfl, iw_3, by decide, gw_in 400 (by decide +kernel) rfl⟩
theorem fl_RX3_29 : FL RX3 29 3 2 := ⟨RX3, TX3, 7, rfl, iw_3, by decide, gw_in 402 (by decide +kernel) rfl⟩
theorem fl_RX3_32 : FL RX3 32 3 3 := ⟨RX3, TX3, 7, rfl, iw_3, by decide, gw_in 405 (by decide +kernel) rfl⟩
theorem fl_RX3_50 : FL RX3 50 6 3 := ⟨RX6, TX6, 7, rfl, iw_6, by decide, gw_in 259 (by decide +kernel) rfl⟩
theorem fl_RX3_55 : FL RX3 55 6 2 := ⟨RX6, TX6, 7, rfl, iw_6, by decide, gw_in 255 (by decide +kernel) rfl⟩
theorem fl_RX3_66 : FL RX3 66 6 4 := ⟨RX6, TX6, 7, rfl, iw_6, by decide, gw_in 264 (by decide +kernel) rfl⟩
theorem fl_RX4_11 : FL RX4 11 4 1 := ⟨RX4, TX4, 2, rfl, iw_4, by decide, gw_in 299 (by decide +kernel) rfl⟩
theorem fl_RX4_17 : FL RX4 17 4 0 := ⟨RX4, TX4, 2, rfl, iw_4, by decide, gw_in 295 (by decide +kernel) rfl⟩
theorem fl_RX5_11 : FL RX5 11 5 1 := ⟨RX5, TX5, 6, rfl, iw_5, by decide, gw_in 435 (by decide +kernel) rfl⟩
theorem fl_RX5_25 : FL RX5 25 5 2 := ⟨RX5, TX5, 6, rfl, iw_5, by decide, gw_in 436 (by decide +kernel) rfl⟩
theorem fl_RX5_29 : FL RX5 29 5 3 := ⟨RX5, TX5, 6, rfl, iw_5, by decide, gw_in 437 (by decide +kernel) rfl⟩
theorem fl_RX5_33 : FL RX5 33 5 4 := ⟨RX5, TX5, 6, rfl, iw_5, by decide, gw_in 438 (by decide +kernel) rfl⟩
theorem fl_RX5_36 : FL RX5 36 5 5 := ⟨RX5, TX5, 6, rfl, iw_5, by decide, gw_in 439 (by decide +kernel) rfl⟩
theorem fl_RX5_40 : FL RX5 40 5 0 := ⟨RX5, TX5, 6, rfl, iw_5, by decide, gw_in 434 (by decide +kernel) rfl⟩
theorem fl_RX5_45 : FL RX5 45 8 0 := ⟨RX8, TX8, 11, rfl, iw_8, by decide, gw_in 306 (by decide +kernel) rfl⟩
theorem fl_RX5_50 : FL RX5 50 8 6 := ⟨RX8, TX8, 11, rfl, iw_8, by decide, gw_in 322 (by decide +kernel) rfl⟩
theorem fl_RX5_54 : FL RX5 54 2 0 := ⟨RX2, TX2, 9, rfl, iw_2, by decide, gw_in 185 (by decide +kernel) rfl⟩
theorem fl_RX5_59 : FL RX5 59 2 2 := ⟨RX2, TX2, 9, rfl, iw_2, by decide, gw_in 194 (by decide +kernel) rfl⟩
theorem fl_RX5_66 : FL RX5 66 8 7 := ⟨RX8, TX8, 11, rfl, iw_8, by decide, gw_in 326 (by decide +kernel) rfl⟩
theorem fl_RX5_69 : FL RX5 69 6 1 := ⟨RX6, TX6, 7, rfl, iw_6, by decide, gw_in 250 (by decide +kernel) rfl⟩
theorem fl_RX5_76 : FL RX5 76 2 3 := ⟨RX2, TX2, 9, rfl, iw_2, by decide, gw_in 198 (by decide +kernel) rfl⟩
theorem fl_RX5_79 : FL RX5 79 6 4 := ⟨RX6, TX6, 7, rfl, iw_6, by decide, gw_in 263 (by decide +kernel) rfl⟩
theorem fl_RX5_110 : FL RX5 110 6 3 := ⟨RX6, TX6, 7, rfl, iw_6, by decide, gw_in 260 (by decide +kernel) rfl⟩
theorem fl_RX5_113 : FL RX5 113 6 2 := ⟨RX6, TX6, 7, rfl, iw_6, by decide, gw_in 256 (by decide +kernel) rfl⟩
theorem fl_RX5_127 : FL RX5 127 4 0 := ⟨RX4, TX4, 2, rfl, iw_4, by decide, gw_in 298 (by decide +kernel) rfl⟩
theorem fl_RX5_134 : FL RX5 134 3 5 := ⟨RX3, TX3, 7, rfl, iw_3, by decide, gw_in 414 (by decide +kernel) rfl⟩
theorem fl_RX5_149 : FL RX5 149 2 8 := ⟨RX2, TX2, 9, rfl, iw_2, by decide, gw_in 214 (by decide +kernel) rfl⟩
theorem fl_RX5_156 : FL RX5 156 6 0 := ⟨RX6, TX6, 7, rfl, iw_6, by decide, gw_in 248 (by decide +kernel) rfl⟩
theorem fl_RX5_159 : FL RX5 159 8 1 := ⟨RX8, TX8, 11, rfl, iw_8, by decide, gw_in 311 (by decide +kernel) rfl⟩
theorem fl_RX5_166 : FL RX5 166 3 3 := ⟨RX3, TX3, 7, rfl, iw_3, by decide, gw_in 409 (by decide +kernel) rfl⟩
theorem fl_RX5_171 : FL RX5 171 2 7 := ⟨RX2, TX2, 9, rfl, iw_2, by decide, gw_in 211 (by decide +kernel) rfl⟩
theorem fl_RX5_199 : FL RX5 199 8 2 := ⟨RX8, TX8, 11, rfl, iw_8, by decide, gw_in 313 (by decide +kernel) rfl⟩
theorem fl_RX5_210 : FL RX5 210 8 8 := ⟨RX8, TX8, 11, rfl, iw_8, by decide, gw_in 330 (by decide +kernel) rfl⟩
theorem fl_RX5_219 : FL RX5 219 2 1 := ⟨RX2, TX2, 9, rfl, iw_2, by decide, gw_in 191 (by decide +kernel) rfl⟩
theorem fl_RX6_12 : FL RX6 12 6 0 := ⟨RX6, TX6, 7, rfl, iw_6, by decide, gw_in 245 (by decide +kernel) rfl⟩
theorem fl_RX6_18 : FL RX6 18 6 1 := ⟨RX6, TX6, 7, rfl, iw_6, by decide, gw_in 249 (by decide +kernel) rfl⟩
theorem fl_RX6_21 : FL RX6 21 6 2 := ⟨RX6, TX6, 7, rfl, iw_6, by decide, gw_in 254 (by decide +kernel) rfl⟩
theorem fl_RX6_25 : FL RX6 25 6 4 := ⟨RX6, TX6, 7, rfl, iw_6, by decide, gw_in 262 (by decide +kernel) rfl⟩
theorem fl_RX6_28 : FL RX6 28 6 5 := ⟨RX6, TX6, 7, rfl, iw_6, by decide, gw_in 266 (by decide +kernel) rfl⟩
theorem fl_RX6_31 : FL RX6 31 6 6 := ⟨RX6, TX6, 7, rfl, iw_6, by decide, gw_in 269 (by decide +kernel) rfl⟩
theorem fl_RX6_37 : FL RX6 37 6 3 := ⟨RX6, TX6, 7, rfl, iw_6, by decide, gw_in 258 (by decide +kernel) rfl⟩
theorem fl_RX6_55 : FL RX6 55 2 2 := ⟨RX2, TX2, 9, rfl, iw_2, by decide, gw_in 195 (by decide +kernel) rfl⟩
theorem fl_RX6_60 : FL RX6 60 2 3 := ⟨RX2, TX2, 9, rfl, iw_2, by decide, gw_in 199 (by decide +kernel) rfl⟩
theorem fl_RX6_71 : FL RX6 71 2 6 := ⟨RX2, TX2, 9, rfl, iw_2, by decide, gw_in 208 (by decide +kernel) rfl⟩
theorem fl_RX6_89 : FL RX6 89 3 3 := ⟨RX3, TX3, 7, rfl, iw_3, by decide, gw_in 406 (by decide +kernel) rfl⟩
theorem fl_RX6_94 : FL RX6 94 3 1 := ⟨RX3, TX3, 7, rfl, iw_3, by decide, gw_in 401 (by decide +kernel) rfl⟩
theorem fl_RX6_97 : FL RX6 97 3 4 := ⟨RX3, TX3, 7, rfl, iw_3, by decide, gw_in 411 (by decide +kernel) rfl⟩
theorem fl_RX6_100 : FL RX6 100 3 0 := ⟨RX3, TX3, 7, rfl, iw_3, by decide, gw_in 399 (by decide +kernel) rfl⟩
theorem fl_RX6_117 : FL RX6 117 2 4 := ⟨RX2, TX2, 9, rfl, iw_2, by decide, gw_in 202 (by decide +kernel) rfl⟩
theorem fl_RX6_123 : FL RX6 123 3 2 := ⟨RX3, TX3, 7, rfl, iw_3, by decide, gw_in 404 (by decide +kernel) rfl⟩
theorem fl_RX6_129 : FL RX6 129 3 6 := ⟨RX3, TX3, 7, rfl, iw_3, by decide, gw_in 417 (by decide +kernel) rfl⟩
theorem fl_RX7_9 : FL RX7 9 7 2 := ⟨RX7, TX7, 6, rfl, iw_7, by decide, gw_in 366 (by decide +kernel) rfl⟩
theorem fl_RX7_15 : FL RX7 15 7 3 := ⟨RX7, TX7, 6, rfl, iw_7, by decide, gw_in 367 (by decide +kernel) rfl⟩
theorem fl_RX7_18 : FL RX7 18 7 4 := ⟨RX7, TX7, 6, rfl, iw_7, by decide, gw_in 368 (by decide +kernel) rfl⟩
theorem fl_RX7_21 : FL RX7 21 7 5 := ⟨RX7, TX7, 6, rfl, iw_7, by decide, gw_in 369 (by decide +kernel) rfl⟩
theorem fl_RX7_24 : FL RX7 24 7 0 := ⟨RX7, TX7, 6, rfl, iw_7, by decide, gw_in 363 (by decide +kernel) rfl⟩
theorem fl_RX7_28 : FL RX7 28 7 1 := ⟨RX7, TX7, 6, rfl, iw_7, by decide, gw_in 365 (by decide +kernel) rfl⟩
theorem fl_RX8_9 : FL RX8 9 8 0 := ⟨RX8, TX8, 11, rfl, iw_8, by decide, gw_in 305 (by decide +kernel) rfl⟩
theorem fl_RX8_18 : FL RX8 18 8 6 := ⟨RX8, TX8, 11, rfl, iw_8, by decide, gw_in 321 (by decide +kernel) rfl⟩
theorem fl_RX8_24 : FL RX8 24 8 7 := ⟨RX8, TX8, 11, rfl, iw_8, by decide, gw_in 325 (by decide +kernel) rfl⟩
theorem fl_RX8_28 : FL RX8 28 8 8 := ⟨RX8, TX8, 11, rfl, iw_8, by decide, gw_in 329 (by decide +kernel) rfl⟩
theorem fl_RX8_33 : FL RX8 33 8 9 := ⟨RX8, TX8, 11, rfl, iw_8, by decide, gw_in 331 (by decide +kernel) rfl⟩
theorem fl_RX8_37 : FL RX8 37 8 10 := ⟨RX8, TX8, 11, rfl, iw_8, by decide, gw_in 332 (by decide +kernel) rfl⟩
theorem fl_RX8_43 : FL RX8 43 8 2 := ⟨RX8, TX8, 11, rfl, iw_8, by decide, gw_in 312 (by decide +kernel) rfl⟩
theorem fl_RX8_46 : FL RX8 46 8 3 := ⟨RX8, TX8, 11, rfl, iw_8, by decide, gw_in 315 (by decide +kernel) rfl⟩
theorem fl_RX8_49 : FL RX8 49 8 4 := ⟨RX8, TX8, 11, rfl, iw_8, by decide, gw_in 317 (by decide +kernel) rfl⟩
theorem fl_RX8_52 : FL RX8 52 8 5 := ⟨RX8, TX8, 11, rfl, iw_8, by decide, gw_in 319 (by decide +kernel) rfl⟩
theorem fl_RX8_59 : FL RX8 59 4 0 := ⟨RX4, TX4, 2, rfl, iw_4, by decide, gw_in 296 (by decide +kernel) rfl⟩
theorem fl_RX8_62 : FL RX8 62 8 1 := ⟨RX8, TX8, 11, rfl, iw_8, by decide, gw_in 309 (by decide +kernel) rfl⟩
theorem fl_RX8_91 : FL RX8 91 2 0 := ⟨RX2, TX2, 9, rfl, iw_2, by decide, gw_in 187 (by decide +kernel) rfl⟩
theorem fl_RX8_96 : FL RX8 96 6 0 := ⟨RX6, TX6, 7, rfl, iw_6, by decide, gw_in 247 (by decide +kernel) rfl⟩
theorem fl_RX8_106 : FL RX8 106 2 5 := ⟨RX2, TX2, 9, rfl, iw_2, by decide, gw_in 205 (by decide +kernel) rfl⟩
theorem fl_RX8_113 : FL RX8 113 6 1 := ⟨RX6, TX6, 7, rfl, iw_6, by decide, gw_in 252 (by decide +kernel) rfl⟩
theorem fl_RX8_133 : FL RX8 133 3 3 := ⟨RX3, TX3, 7, rfl, iw_3, by decide, gw_in 408 (by decide +kernel) rfl⟩
theorem fl_RX8_153 : FL RX8 153 2 1 := ⟨RX2, TX2, 9, rfl, iw_2, by decide, gw_in 190 (by decide +kernel) rfl⟩
theorem fl_RX8_167 : FL RX8 167 6 6 := ⟨RX6, TX6, 7, rfl, iw_6, by decide, gw_in 270 (by decide +kernel) rfl⟩
theorem fl_RX8_177 : FL RX8 177 2 6 := ⟨RX2, TX2, 9, rfl, iw_2, by decide, gw_in 209 (by decide +kernel) rfl⟩
theorem fl_RX8_180 : FL RX8 180 6 5 := ⟨RX6, TX6, 7, rfl, iw_6, by decide, gw_in 267 (by decide +kernel) rfl⟩
theorem fl_RX9_12 : FL RX9 12 9 0 := ⟨RX9, TX9, 6, rfl, iw_9, by decide, gw_in 479 (by decide +kernel) rfl⟩
theorem fl_RX9_16 : FL RX9 16 9 1 := ⟨RX9, TX9, 6, rfl, iw_9, by decide, gw_in 480 (by decide +kernel) rfl⟩
theorem fl_RX9_23 : FL RX9 23 9 2 := ⟨RX9, TX9, 6, rfl, iw_9, by decide, gw_in 481 (by decide +kernel) rfl⟩
theorem fl_RX9_32 : FL RX9 32 9 3 := ⟨RX9, TX9, 6, rfl, iw_9, by decide, gw_in 482 (by decide +kernel) rfl⟩
theorem fl_RX9_39 : FL RX9 39 9 4 := ⟨RX9, TX9, 6, rfl, iw_9, by decide, gw_in 483 (by decide +kernel) rfl⟩
theorem fl_RX9_43 : FL RX9 43 9 5 := ⟨RX9, TX9, 6, rfl, iw_9, by decide, gw_in 484 (by decide +kernel) rfl⟩
theorem fl_RX9_63 : FL RX9 63 8 1 := ⟨RX8, TX8, 11, rfl, iw_8, by decide, gw_in 310 (by decide +kernel) rfl⟩
theorem fl_RX9_84 : FL RX9 84 8 6 := ⟨RX8, TX8, 11, rfl, iw_8, by decide, gw_in 324 (by decide +kernel) rfl⟩
theorem fl_RX9_94 : FL RX9 94 8 7 := ⟨RX8, TX8, 11, rfl, iw_8, by decide, gw_in 328 (by decide +kernel) rfl⟩
theorem fl_RX9_98 : FL RX9 98 6 0 := ⟨RX6, TX6, 7, rfl, iw_6, by decide, gw_in 246 (by decide +kernel) rfl⟩
theorem fl_RX9_163 : FL RX9 163 4 0 := ⟨RX4, TX4, 2, rfl, iw_4, by decide, gw_in 297 (by decide +kernel) rfl⟩
theorem fl_RX9_173 : FL RX9 173 3 3 := ⟨RX3, TX3, 7, rfl, iw_3, by decide, gw_in 407 (by decide +kernel) rfl⟩
theorem fl_RX9_176 : FL RX9 176 3 2 := ⟨RX3, TX3, 7, rfl, iw_3, by decide, gw_in 403 (by decide +kernel) rfl⟩
theorem fl_RX9_177 : FL RX9 177 3 5 := ⟨RX3, TX3, 7, rfl, iw_3, by decide, gw_in 415 (by decide +kernel) rfl⟩
theorem fl_RX9_180 : FL RX9 180 6 1 := ⟨RX6, TX6, 7, rfl, iw_6, by decide, gw_in 253 (by decide +kernel) rfl⟩
theorem fl_RX9_189 : FL RX9 189 3 4 := ⟨RX3, TX3, 7, rfl, iw_3, by decide, gw_in 412 (by decide +kernel) rfl⟩
theorem fl_RX9_205 : FL RX9 205 2 0 := ⟨RX2, TX2, 9, rfl, iw_2, by decide, gw_in 188 (by decide +kernel) rfl⟩
theorem fl_RX9_226 : FL RX9 226 2 5 := ⟨RX2, TX2, 9, rfl, iw_2, by decide, gw_in 206 (by decide +kernel) rfl⟩
theorem fl_RX9_229 : FL RX9 229 6 3 := ⟨RX6, TX6, 7, rfl, iw_6, by decide, gw_in 261 (by decide +kernel) rfl⟩
theorem fl_RX9_234 : FL RX9 234 6 2 := ⟨RX6, TX6, 7, rfl, iw_6, by decide, gw_in 257 (by decide +kernel) rfl⟩
theorem fl_RX9_237 : FL RX9 237 6 4 := ⟨RX6, TX6, 7, rfl, iw_6, by decide, gw_in 265 (by decide +kernel) rfl⟩
theorem fl_RX9_250 : FL RX9 250 2 1 := ⟨RX2, TX2, 9, rfl, iw_2, by decide, gw_in 192 (by decide +kernel) rfl⟩
theorem fl_RX9_271 : FL RX9 271 2 2 := ⟨RX2, TX2, 9, rfl, iw_2, by decide, gw_in 196 (by decide +kernel) rfl⟩
theorem fl_RX9_274 : FL RX9 274 2 3 := ⟨RX2, TX2, 9, rfl, iw_2, by decide, gw_in 200 (by decide +kernel) rfl⟩
theorem fl_RX9_280 : FL RX9 280 2 4 := ⟨RX2, TX2, 9, rfl, iw_2, by decide, gw_in 203 (by decide +kernel) rfl⟩
theorem fl_RX9_289 : FL RX9 289 2 7 := ⟨RX2, TX2, 9, rfl, iw_2, by decide, gw_in 212 (by decide +kernel) rfl⟩
theorem fl_RX9_304 : FL RX9 304 6 5 := ⟨RX6, TX6, 7, rfl, iw_6, by decide, gw_in 268 (by decide +kernel) rfl⟩
theorem fl_RX9_307 : FL RX9 307 6 6 := ⟨RX6, TX6, 7, rfl, iw_6, by decide, gw_in 271 (by decide +kernel) rfl⟩
theorem fl_RX9_330 : FL RX9 330 8 0 := ⟨RX8, TX8, 11, rfl, iw_8, by decide, gw_in 308 (by decide +kernel) rfl⟩
theorem fl_RX9_345 : FL RX9 345 7 0 := ⟨RX7, TX7, 6, rfl, iw_7, by decide, gw_in 364 (by decide +kernel) rfl⟩
theorem fl_RX9_366 : FL RX9 366 0 0 := ⟨RX0, TX0, 6, rfl, iw_0, by decide, gw_in 460 (by decide +kernel) rfl⟩
theorem fl_RX9_374 : FL RX9 374 8 3 := ⟨RX8, TX8, 11, rfl, iw_8, by decide, gw_in 316 (by decide +kernel) rfl⟩
theorem fl_RX9_377 : FL RX9 377 8 4 := ⟨RX8, TX8, 11, rfl, iw_8, by decide, gw_in 318 (by decide +kernel) rfl⟩
theorem fl_RX9_380 : FL RX9 380 8 5 := ⟨RX8, TX8, 11, rfl, iw_8, by decide, gw_in 320 (by decide +kernel) rfl⟩
theorem fl_RX9_395 : FL RX9 395 8 2 := ⟨RX8, TX8, 11, rfl, iw_8, by decide, gw_in 314 (by decide +kernel) rfl⟩
theorem pl_RX0_11 : PL RX0 11 0 3 (.array .int) true := ⟨RX0, TX0, 6, tyX0, rfl, iw_0, by decide, gw_in 463 (by decide +kernel) rfl, tyX0_ok, nmX0, rfl, rfl, by decide +kernel⟩
theorem pl_RX0_15 : PL RX0 15 0 4 (.array .int) true := ⟨RX0, TX0, 6, tyX0, rfl, iw_0, by decide, gw_in 464 (by decide +kernel) rfl, tyX0_ok, nmX0, rfl, rfl, by decide +kernel⟩
theorem pl_RX0_18 : PL RX0 18 0 5 (.array .int) true := ⟨RX0, TX0, 6, tyX0, rfl, iw_0, by decide, gw_in 465 (by decide +kernel) rfl, tyX0_ok, nmX0, rfl, rfl, by decide +kernel⟩
theorem pl_RX0_21 : PL RX0 21 0 2 (.object "GossipTables$World") true := ⟨RX0, TX0, 6, tyX0, rfl, iw_0, by decide, gw_in 462 (by decide +kernel) rfl, tyX0_ok, nmX0, rfl, rfl, by decide +kernel⟩
theorem pl_RX0_25 : PL RX0 25 0 0 .int false := ⟨RX0, TX0, 6, tyX0, rfl, iw_0, by decide, gw_in 459 (by decide +kernel) rfl, tyX0_ok, nmX0, rfl, rfl, by decide +kernel⟩
theorem pl_RX0_49 : PL RX0 49 0 1 .int false := ⟨RX0, TX0, 6, tyX0, rfl, iw_0, by decide, gw_in 461 (by decide +kernel) rfl, tyX0_ok, nmX0, rfl, rfl, by decide +kernel⟩
theorem pl_RX1_9 : PL RX1 9 1 0 .long false := ⟨RX1, TX1, 2, tyX1, rfl, iw_1, by decide, gw_in 176 (by decide +kernel) rfl, tyX1_ok, nmX1, rfl, rfl, by decide +kernel⟩
theorem pl_RX1_15 : PL RX1 15 1 1 .long false := ⟨RX1, TX1, 2, tyX1, rfl, iw_1, by decide, gw_in 177 (by decide +kernel) rfl, tyX1_ok, nmX1, rfl, rfl, by decide +kernel⟩
theorem pl_RX10_1 : PL RX10 1 10 0 .int false := ⟨RX10, TX10, 19, tyX10, rfl, iw_10, by decide, gw_in 1557 (by decide +kernel) rfl, tyX10_ok, nmX10, rfl, rfl, by decide +kernel⟩
theorem pl_RX10_14 : PL RX10 14 10 1 (.array .int) true := ⟨RX10, TX10, 19, tyX10, rfl, iw_10, by decide, gw_in 1558 (by decide +kernel) rfl, tyX10_ok, nmX10, rfl, rfl, by decide +kernel⟩
theorem pl_RX10_18 : PL RX10 18 10 2 (.array .boolean) true := ⟨RX10, TX10, 19, tyX10, rfl, iw_10, by decide, gw_in 1559 (by decide +kernel) rfl, tyX10_ok, nmX10, rfl, rfl, by decide +kernel⟩
theorem pl_RX10_22 : PL RX10 22 10 4 (.array .int) true := ⟨RX10, TX10, 19, tyX10, rfl, iw_10, by decide, gw_in 1561 (by decide +kernel) rfl, tyX10_ok, nmX10, rfl, rfl, by decide +kernel⟩
theorem pl_RX10_25 : PL RX10 25 10 6 (.array .int) true := ⟨RX10, TX10, 19, tyX10, rfl, iw_10, by decide, gw_in 1563 (by decide +kernel) rfl, tyX10_ok, nmX10, rfl, rfl, by decide +kernel⟩
theorem pl_RX10_28 : PL RX10 28 10 8 (.array .boolean) true := ⟨RX10, TX10, 19, tyX10, rfl, iw_10, by decide, gw_in 1565 (by decide +kernel) rfl, tyX10_ok, nmX10, rfl, rfl, by decide +kernel⟩
theorem pl_RX10_31 : PL RX10 31 10 9 (.array .int) true := ⟨RX10, TX10, 19, tyX10, rfl, iw_10, by decide, gw_in 1566 (by decide +kernel) rfl, tyX10_ok, nmX10, rfl, rfl, by decide +kernel⟩
theorem pl_RX10_34 : PL RX10 34 10 10 (.array .int) true := ⟨RX10, TX10, 19, tyX10, rfl, iw_10, by decide, gw_in 1567 (by decide +kernel) rfl, tyX10_ok, nmX10, rfl, rfl, by decide +kernel⟩
theorem pl_RX10_37 : PL RX10 37 10 11 (.array .int) true := ⟨RX10, TX10, 19, tyX10, rfl, iw_10, by decide, gw_in 1568 (by decide +kernel) rfl, tyX10_ok, nmX10, rfl, rfl, by decide +kernel⟩
theorem pl_RX10_40 : PL RX10 40 10 14 (.array .boolean) true := ⟨RX10, TX10, 19, tyX10, rfl, iw_10, by decide, gw_in 1571 (by decide +kernel) rfl, tyX10_ok, nmX10, rfl, rfl, by decide +kernel⟩
theorem pl_RX10_43 : PL RX10 43 10 15 (.array .int) true := ⟨RX10, TX10, 19, tyX10, rfl, iw_10, by decide, gw_in 1572 (by decide +kernel) rfl, tyX10_ok, nmX10, rfl, rfl, by decide +kernel⟩
theorem pl_RX10_46 : PL RX10 46 10 16 (.array .int) true := ⟨RX10, TX10, 19, tyX10, rfl, iw_10, by decide, gw_in 1573 (by decide +kernel) rfl, tyX10_ok, nmX10, rfl, rfl, by decide +kernel⟩
theorem pl_RX10_49 : PL RX10 49 10 17 (.array .int) true := ⟨RX10, TX10, 19, tyX10, rfl, iw_10, by decide, gw_in 1574 (by decide +kernel) rfl, tyX10_ok, nmX10, rfl, rfl, by decide +kernel⟩
theorem pl_RX10_52 : PL RX10 52 10 18 (.array .int) true := ⟨RX10, TX10, 19, tyX10, rfl, iw_10, by decide, gw_in 1575 (by decide +kernel) rfl, tyX10_ok, nmX10, rfl, rfl, by decide +kernel⟩
theorem pl_RX10_59 : PL RX10 59 10 3 .int false := ⟨RX10, TX10, 19, tyX10, rfl, iw_10, by decide, gw_in 1560 (by decide +kernel) rfl, tyX10_ok, nmX10, rfl, rfl, by decide +kernel⟩
theorem pl_RX10_83 : PL RX10 83 10 5 .int false := ⟨RX10, TX10, 19, tyX10, rfl, iw_10, by decide, gw_in 1562 (by decide +kernel) rfl, tyX10_ok, nmX10, rfl, rfl, by decide +kernel⟩
theorem pl_RX10_250 : PL RX10 250 10 7 .long false := ⟨RX10, TX10, 19, tyX10, rfl, iw_10, by decide, gw_in 1564 (by decide +kernel) rfl, tyX10_ok, nmX10, rfl, rfl, by decide +kernel⟩
theorem pl_RX10_339 : PL RX10 339 10 12 .int false := ⟨RX10, TX10, 19, tyX10, rfl, iw_10, by decide, gw_in 1569 (by decide +kernel) rfl, tyX10_ok, nmX10, rfl, rfl, by decide +kernel⟩
theorem pl_RX10_342 : PL RX10 342 10 13 .int false := ⟨RX10, TX10, 19, tyX10, rfl, iw_10, by decide, gw_in 1570 (by decide +kernel) rfl, tyX10_ok, nmX10, rfl, rfl, by decide +kernel⟩
theorem pl_RX2_9 : PL RX2 9 2 1 (.array .int) true := ⟨RX2, TX2, 9, tyX2, rfl, iw_2, by decide, gw_in 189 (by decide +kernel) rfl, tyX2_ok, nmX2, rfl, rfl, by decide +kernel⟩
theorem pl_RX2_15 : PL RX2 15 2 2 (.array .int) true := ⟨RX2, TX2, 9, tyX2, rfl, iw_2, by decide, gw_in 193 (by decide +kernel) rfl, tyX2_ok, nmX2, rfl, rfl, by decide +kernel⟩
theorem pl_RX2_18 : PL RX2 18 2 3 (.array .int) true := ⟨RX2, TX2, 9, tyX2, rfl, iw_2, by decide, gw_in 197 (by decide +kernel) rfl, tyX2_ok, nmX2, rfl, rfl, by decide +kernel⟩
theorem pl_RX2_21 : PL RX2 21 2 4 (.array .int) true := ⟨RX2, TX2, 9, tyX2, rfl, iw_2, by decide, gw_in 201 (by decide +kernel) rfl, tyX2_ok, nmX2, rfl, rfl, by decide +kernel⟩
theorem pl_RX2_24 : PL RX2 24 2 5 (.array .int) true := ⟨RX2, TX2, 9, tyX2, rfl, iw_2, by decide, gw_in 204 (by decide +kernel) rfl, tyX2_ok, nmX2, rfl, rfl, by decide +kernel⟩
theorem pl_RX2_27 : PL RX2 27 2 6 (.array .int) true := ⟨RX2, TX2, 9, tyX2, rfl, iw_2, by decide, gw_in 207 (by decide +kernel) rfl, tyX2_ok, nmX2, rfl, rfl, by decide +kernel⟩
theorem pl_RX2_30 : PL RX2 30 2 7 (.array .int) true := ⟨RX2, TX2, 9, tyX2, rfl, iw_2, by decide, gw_in 210 (by decide +kernel) rfl, tyX2_ok, nmX2, rfl, rfl, by decide +kernel⟩
theorem pl_RX2_35 : PL RX2 35 2 8 (.array (.object "GossipTables$EventSet")) true := ⟨RX2, TX2, 9, tyX2, rfl, iw_2, by decide, gw_in 213 (by decide +kernel) rfl, tyX2_ok, nmX2, rfl, rfl, by decide +kernel⟩
theorem pl_RX2_40 : PL RX2 40 2 0 .int false := ⟨RX2, TX2, 9, tyX2, rfl, iw_2, by decide, gw_in 184 (by decide +kernel) rfl, tyX2_ok, nmX2, rfl, rfl, by decide +kernel⟩
theorem pl_RX3_9 : PL RX3 9 3 4 (.array .int) true := ⟨RX3, TX3, 7, tyX3, rfl, iw_3, by decide, gw_in 410 (by decide +kernel) rfl, tyX3_ok, nmX3, rfl, rfl, by decide +kernel⟩
theorem pl_RX3_15 : PL RX3 15 3 6 (.array .int) true := ⟨RX3, TX3, 7, tyX3, rfl, iw_3, by decide, gw_in 416 (by decide +kernel) rfl, tyX3_ok, nmX3, rfl, rfl, by decide +kernel⟩
theorem pl_RX3_18 : PL RX3 18 3 5 (.object "GossipTables$EventSet") true := ⟨RX3, TX3, 7, tyX3, rfl, iw_3, by decide, gw_in 413 (by decide +kernel) rfl, tyX3_ok, nmX3, rfl, rfl, by decide +kernel⟩
theorem pl_RX3_22 : PL RX3 22 3 0 .int false := ⟨RX3, TX3, 7, tyX3, rfl, iw_3, by decide, gw_in 398 (by decide +kernel) rfl, tyX3_ok, nmX3, rfl, rfl, by decide +kernel⟩
theorem pl_RX3_26 : PL RX3 26 3 1 .int false := ⟨RX3, TX3, 7, tyX3, rfl, iw_3, by decide, gw_in 400 (by decide +kernel) rfl, tyX3_ok, nmX3, rfl, rfl, by decide +kernel⟩
theorem pl_RX3_29 : PL RX3 29 3 2 .int false := ⟨RX3, TX3, 7, tyX3, rfl, iw_3, by decide, gw_in 402 (by decide +kernel) rfl, tyX3_ok, nmX3, rfl, rfl, by decide +kernel⟩
theorem pl_RX3_32 : PL RX3 32 3 3 .int false := ⟨RX3, TX3, 7, tyX3, rfl, iw_3, by decide, gw_in 405 (by decide +kernel) rfl, tyX3_ok, nmX3, rfl, rfl, by decide +kernel⟩
theorem pl_RX4_11 : PL RX4 11 4 1 (.array (.object "GossipTables$Letter")) true := ⟨RX4, TX4, 2, tyX4, rfl, iw_4, by decide, gw_in 299 (by decide +kernel) rfl, tyX4_ok, nmX4, rfl, rfl, by decide +kernel⟩
theorem pl_RX4_17 : PL RX4 17 4 0 .int false := ⟨RX4, TX4, 2, tyX4, rfl, iw_4, by decide, gw_in 295 (by decide +kernel) rfl, tyX4_ok, nmX4, rfl, rfl, by decide +kernel⟩
theorem pl_RX5_11 : PL RX5 11 5 1 (.array (.object "GossipTables$Site")) true := ⟨RX5, TX5, 6, tyX5, rfl, iw_5, by decide, gw_in 435 (by decide +kernel) rfl, tyX5_ok, nmX5, rfl, rfl, by decide +kernel⟩
theorem pl_RX5_25 : PL RX5 25 5 2 (.object "GossipTables$Letter") true := ⟨RX5, TX5, 6, tyX5, rfl, iw_5, by decide, gw_in 436 (by decide +kernel) rfl, tyX5_ok, nmX5, rfl, rfl, by decide +kernel⟩
theorem pl_RX5_29 : PL RX5 29 5 3 (.object "GossipTables$EventSet") true := ⟨RX5, TX5, 6, tyX5, rfl, iw_5, by decide, gw_in 437 (by decide +kernel) rfl, tyX5_ok, nmX5, rfl, rfl, by decide +kernel⟩
theorem pl_RX5_33 : PL RX5 33 5 4 (.object "GossipTables$EventSet") true := ⟨RX5, TX5, 6, tyX5, rfl, iw_5, by decide, gw_in 438 (by decide +kernel) rfl, tyX5_ok, nmX5, rfl, rfl, by decide +kernel⟩
theorem pl_RX5_36 : PL RX5 36 5 5 (.array .int) true := ⟨RX5, TX5, 6, tyX5, rfl, iw_5, by decide, gw_in 439 (by decide +kernel) rfl, tyX5_ok, nmX5, rfl, rfl, by decide +kernel⟩
theorem pl_RX5_40 : PL RX5 40 5 0 (.object "GossipTables$World") true := ⟨RX5, TX5, 6, tyX5, rfl, iw_5, by decide, gw_in 434 (by decide +kernel) rfl, tyX5_ok, nmX5, rfl, rfl, by decide +kernel⟩
theorem pl_RX6_12 : PL RX6 12 6 0 (.object "GossipTables$EventSet") true := ⟨RX6, TX6, 7, tyX6, rfl, iw_6, by decide, gw_in 245 (by decide +kernel) rfl, tyX6_ok, nmX6, rfl, rfl, by decide +kernel⟩
theorem pl_RX6_18 : PL RX6 18 6 1 (.object "GossipTables$EventSet") true := ⟨RX6, TX6, 7, tyX6, rfl, iw_6, by decide, gw_in 249 (by decide +kernel) rfl, tyX6_ok, nmX6, rfl, rfl, by decide +kernel⟩
theorem pl_RX6_21 : PL RX6 21 6 2 (.array .int) true := ⟨RX6, TX6, 7, tyX6, rfl, iw_6, by decide, gw_in 254 (by decide +kernel) rfl, tyX6_ok, nmX6, rfl, rfl, by decide +kernel⟩
theorem pl_RX6_25 : PL RX6 25 6 4 (.array .int) true := ⟨RX6, TX6, 7, tyX6, rfl, iw_6, by decide, gw_in 262 (by decide +kernel) rfl, tyX6_ok, nmX6, rfl, rfl, by decide +kernel⟩
theorem pl_RX6_28 : PL RX6 28 6 5 (.array .int) true := ⟨RX6, TX6, 7, tyX6, rfl, iw_6, by decide, gw_in 266 (by decide +kernel) rfl, tyX6_ok, nmX6, rfl, rfl, by decide +kernel⟩
theorem pl_RX6_31 : PL RX6 31 6 6 (.array .int) true := ⟨RX6, TX6, 7, tyX6, rfl, iw_6, by decide, gw_in 269 (by decide +kernel) rfl, tyX6_ok, nmX6, rfl, rfl, by decide +kernel⟩
theorem pl_RX6_37 : PL RX6 37 6 3 .int false := ⟨RX6, TX6, 7, tyX6, rfl, iw_6, by decide, gw_in 258 (by decide +kernel) rfl, tyX6_ok, nmX6, rfl, rfl, by decide +kernel⟩
theorem pl_RX7_9 : PL RX7 9 7 2 (.array .int) true := ⟨RX7, TX7, 6, tyX7, rfl, iw_7, by decide, gw_in 366 (by decide +kernel) rfl, tyX7_ok, nmX7, rfl, rfl, by decide +kernel⟩
theorem pl_RX7_15 : PL RX7 15 7 3 (.array .int) true := ⟨RX7, TX7, 6, tyX7, rfl, iw_7, by decide, gw_in 367 (by decide +kernel) rfl, tyX7_ok, nmX7, rfl, rfl, by decide +kernel⟩
theorem pl_RX7_18 : PL RX7 18 7 4 (.array .int) true := ⟨RX7, TX7, 6, tyX7, rfl, iw_7, by decide, gw_in 368 (by decide +kernel) rfl, tyX7_ok, nmX7, rfl, rfl, by decide +kernel⟩
theorem pl_RX7_21 : PL RX7 21 7 5 (.array .int) true := ⟨RX7, TX7, 6, tyX7, rfl, iw_7, by decide, gw_in 369 (by decide +kernel) rfl, tyX7_ok, nmX7, rfl, rfl, by decide +kernel⟩
theorem pl_RX7_24 : PL RX7 24 7 0 .int false := ⟨RX7, TX7, 6, tyX7, rfl, iw_7, by decide, gw_in 363 (by decide +kernel) rfl, tyX7_ok, nmX7, rfl, rfl, by decide +kernel⟩
theorem pl_RX7_28 : PL RX7 28 7 1 .int false := ⟨RX7, TX7, 6, tyX7, rfl, iw_7, by decide, gw_in 365 (by decide +kernel) rfl, tyX7_ok, nmX7, rfl, rfl, by decide +kernel⟩
theorem pl_RX8_9 : PL RX8 9 8 0 .int false := ⟨RX8, TX8, 11, tyX8, rfl, iw_8, by decide, gw_in 305 (by decide +kernel) rfl, tyX8_ok, nmX8, rfl, rfl, by decide +kernel⟩
theorem pl_RX8_18 : PL RX8 18 8 6 (.object "GossipTables$Events") true := ⟨RX8, TX8, 11, tyX8, rfl, iw_8, by decide, gw_in 321 (by decide +kernel) rfl, tyX8_ok, nmX8, rfl, rfl, by decide +kernel⟩
theorem pl_RX8_24 : PL RX8 24 8 7 (.array (.object "GossipTables$Site")) true := ⟨RX8, TX8, 11, tyX8, rfl, iw_8, by decide, gw_in 325 (by decide +kernel) rfl, tyX8_ok, nmX8, rfl, rfl, by decide +kernel⟩
theorem pl_RX8_28 : PL RX8 28 8 8 (.array (.object "GossipTables$Site")) true := ⟨RX8, TX8, 11, tyX8, rfl, iw_8, by decide, gw_in 329 (by decide +kernel) rfl, tyX8_ok, nmX8, rfl, rfl, by decide +kernel⟩
theorem pl_RX8_33 : PL RX8 33 8 9 (.array (.object "GossipTables$LetterRow")) true := ⟨RX8, TX8, 11, tyX8, rfl, iw_8, by decide, gw_in 331 (by decide +kernel) rfl, tyX8_ok, nmX8, rfl, rfl, by decide +kernel⟩
theorem pl_RX8_37 : PL RX8 37 8 10 (.array .boolean) true := ⟨RX8, TX8, 11, tyX8, rfl, iw_8, by decide, gw_in 332 (by decide +kernel) rfl, tyX8_ok, nmX8, rfl, rfl, by decide +kernel⟩
theorem pl_RX8_43 : PL RX8 43 8 2 .int false := ⟨RX8, TX8, 11, tyX8, rfl, iw_8, by decide, gw_in 312 (by decide +kernel) rfl, tyX8_ok, nmX8, rfl, rfl, by decide +kernel⟩
theorem pl_RX8_46 : PL RX8 46 8 3 .int false := ⟨RX8, TX8, 11, tyX8, rfl, iw_8, by decide, gw_in 315 (by decide +kernel) rfl, tyX8_ok, nmX8, rfl, rfl, by decide +kernel⟩
theorem pl_RX8_49 : PL RX8 49 8 4 .int false := ⟨RX8, TX8, 11, tyX8, rfl, iw_8, by decide, gw_in 317 (by decide +kernel) rfl, tyX8_ok, nmX8, rfl, rfl, by decide +kernel⟩
theorem pl_RX8_52 : PL RX8 52 8 5 .int false := ⟨RX8, TX8, 11, tyX8, rfl, iw_8, by decide, gw_in 319 (by decide +kernel) rfl, tyX8_ok, nmX8, rfl, rfl, by decide +kernel⟩
theorem pl_RX8_59 : PL RX8 59 4 0 .int false := ⟨RX4, TX4, 2, tyX4, rfl, iw_4, by decide, gw_in 296 (by decide +kernel) rfl, tyX4_ok, nmX4, rfl, rfl, by decide +kernel⟩
theorem pl_RX8_62 : PL RX8 62 8 1 .int false := ⟨RX8, TX8, 11, tyX8, rfl, iw_8, by decide, gw_in 309 (by decide +kernel) rfl, tyX8_ok, nmX8, rfl, rfl, by decide +kernel⟩
theorem pl_RX9_12 : PL RX9 12 9 0 (.object "GossipTables$World") true := ⟨RX9, TX9, 6, tyX9, rfl, iw_9, by decide, gw_in 479 (by decide +kernel) rfl, tyX9_ok, nmX9, rfl, rfl, by decide +kernel⟩
theorem pl_RX9_16 : PL RX9 16 9 1 (.array (.object "GossipTables$World")) true := ⟨RX9, TX9, 6, tyX9, rfl, iw_9, by decide, gw_in 480 (by decide +kernel) rfl, tyX9_ok, nmX9, rfl, rfl, by decide +kernel⟩
theorem pl_RX9_23 : PL RX9 23 9 2 (.object "GossipTables$Trace") true := ⟨RX9, TX9, 6, tyX9, rfl, iw_9, by decide, gw_in 481 (by decide +kernel) rfl, tyX9_ok, nmX9, rfl, rfl, by decide +kernel⟩
theorem pl_RX9_32 : PL RX9 32 9 3 (.object "GossipTables$Paper") true := ⟨RX9, TX9, 6, tyX9, rfl, iw_9, by decide, gw_in 482 (by decide +kernel) rfl, tyX9_ok, nmX9, rfl, rfl, by decide +kernel⟩
theorem pl_RX9_39 : PL RX9 39 9 4 (.object "GossipTables$Couples") true := ⟨RX9, TX9, 6, tyX9, rfl, iw_9, by decide, gw_in 483 (by decide +kernel) rfl, tyX9_ok, nmX9, rfl, rfl, by decide +kernel⟩
theorem pl_RX9_43 : PL RX9 43 9 5 .long false := ⟨RX9, TX9, 6, tyX9, rfl, iw_9, by decide, gw_in 484 (by decide +kernel) rfl, tyX9_ok, nmX9, rfl, rfl, by decide +kernel⟩
theorem pl_RX9_63 : PL RX9 63 8 1 .int false := ⟨RX8, TX8, 11, tyX8, rfl, iw_8, by decide, gw_in 310 (by decide +kernel) rfl, tyX8_ok, nmX8, rfl, rfl, by decide +kernel⟩
theorem nl_RL_8 : NL RL 8 9 6 dfl_9 := ⟨RX9, TX9, tyX9, rfl, iw_9, gw_in 149 (by decide +kernel) rfl, gw_in 150 (by decide +kernel) rfl, gw_in 127 (by decide +kernel) rfl, tyX9_ok, fun G j hj => match j, hj with | 0, _ => rfl | 1, _ => rfl | 2, _ => rfl | 3, _ => rfl | 4, _ => rfl | 5, _ => rfl | j + 6, hj => absurd hj (by omega)⟩
theorem nl_RL_157 : NL RL 157 10 19 dfl_10 := ⟨RX10, TX10, tyX10, rfl, iw_10, gw_in 1545 (by decide +kernel) rfl, gw_in 1546 (by decide +kernel) rfl, gw_in 137 (by decide +kernel) rfl, tyX10_ok, fun G j hj => match j, hj with | 0, _ => rfl | 1, _ => rfl | 2, _ => rfl | 3, _ => rfl | 4, _ => rfl | 5, _ => rfl | 6, _ => rfl | 7, _ => rfl | 8, _ => rfl | 9, _ => rfl | 10, _ => rfl | 11, _ => rfl | 12, _ => rfl | 13, _ => rfl | 14, _ => rfl | 15, _ => rfl | 16, _ => rfl | 17, _ => rfl | 18, _ => rfl | j + 19, hj => absurd hj (by omega)⟩
theorem nl_RX2_33 : NL RX2 33 1 2 dfl_1 := ⟨RX1, TX1, tyX1, rfl, iw_1, gw_in 169 (by decide +kernel) rfl, gw_in 171 (by decide +kernel) rfl, gw_in 130 (by decide +kernel) rfl, tyX1_ok, fun G j hj => match j, hj with | 0, _ => rfl | 1, _ => rfl | j + 2, hj => absurd hj (by omega)⟩
theorem nl_RX4_9 : NL RX4 9 3 7 dfl_3 := ⟨RX3, TX3, tyX3, rfl, iw_3, gw_in 293 (by decide +kernel) rfl, gw_in 391 (by decide +kernel) rfl, gw_in 135 (by decide +kernel) rfl, tyX3_ok, fun G j hj => match j, hj with | 0, _ => rfl | 1, _ => rfl | 2, _ => rfl | 3, _ => rfl | 4, _ => rfl | 5, _ => rfl | 6, _ => rfl | j + 7, hj => absurd hj (by omega)⟩
theorem nl_RX4_33 : NL RX4 33 1 2 dfl_1 := ⟨RX1, TX1, tyX1, rfl, iw_1, gw_in 628 (by decide +kernel) rfl, gw_in 171 (by decide +kernel) rfl, gw_in 130 (by decide +kernel) rfl, tyX1_ok, fun G j hj => match j, hj with | 0, _ => rfl | 1, _ => rfl | j + 2, hj => absurd hj (by omega)⟩
theorem nl_RX5_9 : NL RX5 9 6 7 dfl_6 := ⟨RX6, TX6, tyX6, rfl, iw_6, gw_in 389 (by decide +kernel) rfl, gw_in 238 (by decide +kernel) rfl, gw_in 131 (by decide +kernel) rfl, tyX6_ok, fun G j hj => match j, hj with | 0, _ => rfl | 1, _ => rfl | 2, _ => rfl | 3, _ => rfl | 4, _ => rfl | 5, _ => rfl | 6, _ => rfl | j + 7, hj => absurd hj (by omega)⟩
theorem nl_RX5_17 : NL RX5 17 3 7 dfl_3 := ⟨RX3, TX3, tyX3, rfl, iw_3, gw_in 390 (by decide +kernel) rfl, gw_in 391 (by decide +kernel) rfl, gw_in 135 (by decide +kernel) rfl, tyX3_ok, fun G j hj => match j, hj with | 0, _ => rfl | 1, _ => rfl | 2, _ => rfl | 3, _ => rfl | 4, _ => rfl | 5, _ => rfl | 6, _ => rfl | j + 7, hj => absurd hj (by omega)⟩
theorem nl_RX5_19 : NL RX5 19 1 2 dfl_1 := ⟨RX1, TX1, tyX1, rfl, iw_1, gw_in 392 (by decide +kernel) rfl, gw_in 171 (by decide +kernel) rfl, gw_in 130 (by decide +kernel) rfl, tyX1_ok, fun G j hj => match j, hj with | 0, _ => rfl | 1, _ => rfl | j + 2, hj => absurd hj (by omega)⟩
theorem nl_RX6_9 : NL RX6 9 1 2 dfl_1 := ⟨RX1, TX1, tyX1, rfl, iw_1, gw_in 243 (by decide +kernel) rfl, gw_in 171 (by decide +kernel) rfl, gw_in 130 (by decide +kernel) rfl, tyX1_ok, fun G j hj => match j, hj with | 0, _ => rfl | 1, _ => rfl | j + 2, hj => absurd hj (by omega)⟩
theorem nl_RX8_15 : NL RX8 15 2 9 dfl_2 := ⟨RX2, TX2, tyX2, rfl, iw_2, gw_in 163 (by decide +kernel) rfl, gw_in 164 (by decide +kernel) rfl, gw_in 129 (by decide +kernel) rfl, tyX2_ok, fun G j hj => match j, hj with | 0, _ => rfl | 1, _ => rfl | 2, _ => rfl | 3, _ => rfl | 4, _ => rfl | 5, _ => rfl | 6, _ => rfl | 7, _ => rfl | 8, _ => rfl | j + 9, hj => absurd hj (by omega)⟩
theorem nl_RX8_22 : NL RX8 22 6 7 dfl_6 := ⟨RX6, TX6, tyX6, rfl, iw_6, gw_in 234 (by decide +kernel) rfl, gw_in 238 (by decide +kernel) rfl, gw_in 131 (by decide +kernel) rfl, tyX6_ok, fun G j hj => match j, hj with | 0, _ => rfl | 1, _ => rfl | 2, _ => rfl | 3, _ => rfl | 4, _ => rfl | 5, _ => rfl | 6, _ => rfl | j + 7, hj => absurd hj (by omega)⟩
theorem nl_RX8_31 : NL RX8 31 4 2 dfl_4 := ⟨RX4, TX4, tyX4, rfl, iw_4, gw_in 236 (by decide +kernel) rfl, gw_in 288 (by decide +kernel) rfl, gw_in 132 (by decide +kernel) rfl, tyX4_ok, fun G j hj => match j, hj with | 0, _ => rfl | 1, _ => rfl | j + 2, hj => absurd hj (by omega)⟩
theorem nl_RX9_9 : NL RX9 9 8 11 dfl_8 := ⟨RX8, TX8, tyX8, rfl, iw_8, gw_in 157 (by decide +kernel) rfl, gw_in 158 (by decide +kernel) rfl, gw_in 128 (by decide +kernel) rfl, tyX8_ok, fun G j hj => match j, hj with | 0, _ => rfl | 1, _ => rfl | 2, _ => rfl | 3, _ => rfl | 4, _ => rfl | 5, _ => rfl | 6, _ => rfl | 7, _ => rfl | 8, _ => rfl | 9, _ => rfl | 10, _ => rfl | j + 11, hj => absurd hj (by omega)⟩
theorem nl_RX9_20 : NL RX9 20 7 6 dfl_7 := ⟨RX7, TX7, tyX7, rfl, iw_7, gw_in 357 (by decide +kernel) rfl, gw_in 358 (by decide +kernel) rfl, gw_in 133 (by decide +kernel) rfl, tyX7_ok, fun G j hj => match j, hj with | 0, _ => rfl | 1, _ => rfl | 2, _ => rfl | 3, _ => rfl | 4, _ => rfl | 5, _ => rfl | j + 6, hj => absurd hj (by omega)⟩
theorem nl_RX9_27 : NL RX9 27 5 6 dfl_5 := ⟨RX5, TX5, tyX5, rfl, iw_5, gw_in 383 (by decide +kernel) rfl, gw_in 384 (by decide +kernel) rfl, gw_in 134 (by decide +kernel) rfl, tyX5_ok, fun G j hj => match j, hj with | 0, _ => rfl | 1, _ => rfl | 2, _ => rfl | 3, _ => rfl | 4, _ => rfl | 5, _ => rfl | j + 6, hj => absurd hj (by omega)⟩
theorem nl_RX9_36 : NL RX9 36 0 6 dfl_0 := ⟨RX0, TX0, tyX0, rfl, iw_0, gw_in 453 (by decide +kernel) rfl, gw_in 454 (by decide +kernel) rfl, gw_in 136 (by decide +kernel) rfl, tyX0_ok, fun G j hj => match j, hj with | 0, _ => rfl | 1, _ => rfl | 2, _ => rfl | 3, _ => rfl | 4, _ => rfl | 5, _ => rfl | j + 6, hj => absurd hj (by omega)⟩
theorem cl_RL_13 : Cond.classLink RL 13 "java/lang/IllegalArgumentException" ∈ gw := gw_in 672 (by decide +kernel) rfl
theorem cl_RL_22 : Cond.classLink RL 22 "java/lang/IndexOutOfBoundsException" ∈ gw := gw_in 774 (by decide +kernel) rfl
theorem cl_RL_24 : Cond.classLink RL 24 "java/lang/IllegalStateException" ∈ gw := gw_in 775 (by decide +kernel) rfl
theorem cl_RL_29 : Cond.classLink RL 29 "java/util/NoSuchElementException" ∈ gw := gw_in 870 (by decide +kernel) rfl
theorem cl_RX2_33 : Cond.classLink RX2 33 "GossipTables$EventSet" ∈ gw := gw_in 169 (by decide +kernel) rfl
theorem cl_RX4_9 : Cond.classLink RX4 9 "GossipTables$Letter" ∈ gw := gw_in 293 (by decide +kernel) rfl
theorem cl_RX5_9 : Cond.classLink RX5 9 "GossipTables$Site" ∈ gw := gw_in 389 (by decide +kernel) rfl
theorem cl_RX8_22 : Cond.classLink RX8 22 "GossipTables$Site" ∈ gw := gw_in 234 (by decide +kernel) rfl
theorem cl_RX8_31 : Cond.classLink RX8 31 "GossipTables$LetterRow" ∈ gw := gw_in 236 (by decide +kernel) rfl
theorem cl_RX9_9 : Cond.classLink RX9 9 "GossipTables$World" ∈ gw := gw_in 157 (by decide +kernel) rfl
theorem ck_RJ13_314 : Cond.constantLong RJ13 314 (6148914691236517205 : Int64) ∈ gw := gw_in 642 (by decide +kernel) rfl
theorem ck_RJ13_316 : Cond.constantLong RJ13 316 (3689348814741910323 : Int64) ∈ gw := gw_in 643 (by decide +kernel) rfl
theorem ck_RJ13_318 : Cond.constantLong RJ13 318 (1085102592571150095 : Int64) ∈ gw := gw_in 644 (by decide +kernel) rfl
theorem ck_RJ6_265 : Cond.constant RJ6 265 (1431655765 : Int32) ∈ gw := gw_in 544 (by decide +kernel) rfl
theorem ck_RJ6_266 : Cond.constant RJ6 266 (858993459 : Int32) ∈ gw := gw_in 545 (by decide +kernel) rfl
theorem ck_RJ6_267 : Cond.constant RJ6 267 (252645135 : Int32) ∈ gw := gw_in 546 (by decide +kernel) rfl
theorem ck_RX1_18 : Cond.constantLong RX1 18 (-1 : Int64) ∈ gw := gw_in 904 (by decide +kernel) rfl
theorem ck_RX10_13 : Cond.constant RX10 13 (197700 : Int32) ∈ gw := gw_in 1551 (by decide +kernel) rfl
theorem ck_RX10_82 : Cond.constant RX10 82 (49425 : Int32) ∈ gw := gw_in 1556 (by decide +kernel) rfl
theorem ck_RX10_97 : Cond.constantLong RX10 97 (2 : Int64) ∈ gw := gw_in 1619 (by decide +kernel) rfl
theorem ck_RX10_99 : Cond.constantLong RX10 99 (5 : Int64) ∈ gw := gw_in 1620 (by decide +kernel) rfl
theorem ck_RX10_104 : Cond.constantLong RX10 104 (31 : Int64) ∈ gw := gw_in 1636 (by decide +kernel) rfl
theorem ck_RX10_106 : Cond.constantLong RX10 106 (3 : Int64) ∈ gw := gw_in 1637 (by decide +kernel) rfl
theorem ck_RX10_151 : Cond.constantLong RX10 151 (99 : Int64) ∈ gw := gw_in 1646 (by decide +kernel) rfl
theorem ck_RX10_203 : Cond.constant RX10 203 (49278 : Int32) ∈ gw := gw_in 1779 (by decide +kernel) rfl
theorem ck_RX10_210 : Cond.constant RX10 210 (49279 : Int32) ∈ gw := gw_in 1816 (by decide +kernel) rfl
theorem ck_RX10_248 : Cond.constantLong RX10 248 (1103515245 : Int64) ∈ gw := gw_in 1886 (by decide +kernel) rfl
theorem ck_RX10_254 : Cond.constantLong RX10 254 (12345 : Int64) ∈ gw := gw_in 1887 (by decide +kernel) rfl
theorem ck_RX10_256 : Cond.constantLong RX10 256 (2147483648 : Int64) ∈ gw := gw_in 1888 (by decide +kernel) rfl
theorem ck_RX10_258 : Cond.constantLong RX10 258 (64 : Int64) ∈ gw := gw_in 1889 (by decide +kernel) rfl
theorem ck_RX10_266 : Cond.constantLong RX10 266 (60 : Int64) ∈ gw := gw_in 1881 (by decide +kernel) rfl
theorem ck_RX10_274 : Cond.constant RX10 274 (98850 : Int32) ∈ gw := gw_in 1906 (by decide +kernel) rfl
theorem ck_RX10_306 : Cond.constant RX10 306 (49280 : Int32) ∈ gw := gw_in 1999 (by decide +kernel) rfl
theorem ck_RX10_322 : Cond.constantLong RX10 322 (4 : Int64) ∈ gw := gw_in 2004 (by decide +kernel) rfl
theorem ck_RX10_383 : Cond.constantLong RX10 383 (6 : Int64) ∈ gw := gw_in 2155 (by decide +kernel) rfl
theorem ck_RX9_424 : Cond.constantLong RX9 424 (1103515245 : Int64) ∈ gw := gw_in 1130 (by decide +kernel) rfl
theorem ck_RX9_426 : Cond.constantLong RX9 426 (12345 : Int64) ∈ gw := gw_in 1131 (by decide +kernel) rfl
theorem ck_RX9_428 : Cond.constantLong RX9 428 (2147483647 : Int64) ∈ gw := gw_in 1132 (by decide +kernel) rfl
theorem ca_IllegalArgumentException : Cond.castable "java/lang/IllegalArgumentException" "java/lang/IllegalArgumentException" ∈ lw_tbl := List.mem_of_getElem? (i := 679) (by decide +kernel)
theorem ca_IllegalStateException : Cond.castable "java/lang/IllegalStateException" "java/lang/IllegalStateException" ∈ lw_tbl := List.mem_of_getElem? (i := 810) (by decide +kernel)
theorem ca_IndexOutOfBoundsException : Cond.castable "java/lang/IndexOutOfBoundsException" "java/lang/IndexOutOfBoundsException" ∈ lw_tbl := List.mem_of_getElem? (i := 786) (by decide +kernel)
theorem ca_NoSuchElementException : Cond.castable "java/util/NoSuchElementException" "java/util/NoSuchElementException" ∈ lw_tbl := List.mem_of_getElem? (i := 882) (by decide +kernel)
theorem tl_RX9_47_51 : TL RX9 47 51 "java/lang/IllegalArgumentException" := ⟨by decide +kernel, gw_in 677 (by decide +kernel) rfl, gw_in 141 (by decide +kernel) rfl, by decide +kernel, by decide +kernel⟩
theorem tl_RX9_109_113 : TN RX9 109 113 := ⟨gw_in 880 (by decide +kernel) rfl, gw_in 144 (by decide +kernel) rfl, by decide +kernel, by decide +kernel⟩
theorem tl_RX9_125_129 : TL RX9 125 129 "java/lang/IllegalStateException" := ⟨by decide +kernel, gw_in 808 (by decide +kernel) rfl, gw_in 143 (by decide +kernel) rfl, by decide +kernel, by decide +kernel⟩
theorem tl_RX9_400_404 : TL RX9 400 404 "java/lang/IndexOutOfBoundsException" := ⟨by decide +kernel, gw_in 784 (by decide +kernel) rfl, gw_in 142 (by decide +kernel) rfl, by decide +kernel, by decide +kernel⟩
