theorem t_X10_thrown {G : Gx} {d : Nat} (hl : G.1.stackTraces = false) (hd : 0 ≤ d) {σ : Sto} {a0 : Nat} {r : Int32} (h : F_X10_thrown σ a0 = some r) : Mi G d m_X10_thrown 10 a0 [] σ (.inl (some (.int r))) σ := by
  rw [F_X10_thrown] at h
  obtain ⟨hg, h⟩ := chk_some h
  refine ⟨J.toMt (lo := [(0, .ref a0)]) pn_RX10 rfl hl (Nat.le_of_ble_eq_true rfl) rfl ?_, hg⟩
  refine r_aload_n (dc_X10_thrown 0 rfl) rfl rfl ?_
  obtain ⟨x1, e0, h⟩ := Option.bind_eq_some_iff.mp h
  refine r_getI (dc_X10_thrown 1 rfl) fl_RX10_1 e0 ?_
  cases h
  exact r_ireturn (dc_X10_thrown 2 rfl) rfl
theorem t_X10_fails {G : Gx} {d : Nat} (hl : G.1.stackTraces = false) (hd : 0 ≤ d) {σ : Sto} {a0 : Nat} {xa1 : Int32} {r : (Int32 × Sto)} (h : F_X10_fails σ a0 xa1 = some r) : Mi G d m_X10_fails 10 a0 [.int xa1] σ (.inl (some (.int r.1))) r.2 := by
  rw [F_X10_fails] at h
  obtain ⟨hg, h⟩ := chk_some h
  refine ⟨J.toMt (lo := [(0, .ref a0), (1, .int xa1)]) pn_RX10 rfl hl (Nat.le_of_ble_eq_true rfl) rfl ?_, hg⟩
  refine r_aload_n (dc_X10_fails 0 rfl) rfl rfl ?_
  refine r_iload_n (dc_X10_fails 1 rfl) rfl rfl ?_
  obtain ⟨s1, e0, h⟩ := Option.bind_eq_some_iff.mp h
  refine r_put (dc_X10_fails 2 rfl) pl_RX10_1 rfl e0 ?_
  refine r_iconst (dc_X10_fails 3 rfl) kiconst_0 ?_
  cases h
  exact r_ireturn (dc_X10_fails 4 rfl) rfl
theorem t_X10_isIn {G : Gx} {d : Nat} (hl : G.1.stackTraces = false) (hd : 0 ≤ d) {σ : Sto} {ya0 : Int64} {ya2 : Int64} {ya4 : Int64} {r : Int32} (h : F_X10_isIn ya0 ya2 ya4 = some r) : Mt G d m_X10_isIn [.long ya0, .long ya2, .long ya4] σ (.inl (some (.int r))) σ := by
  rw [F_X10_isIn] at h
  refine J.toMt (lo := [(0, .long ya0), (2, .long ya2), (4, .long ya4)]) pn_RX10 rfl hl (Nat.le_of_ble_eq_true rfl) rfl ?_
  refine r_lload_n (dc_X10_isIn 0 rfl) rfl rfl ?_
  refine r_lload_n (dc_X10_isIn 1 rfl) rfl rfl ?_
  refine r_lcmp (dc_X10_isIn 2 rfl) ?_
  refine r_if_lt (dc_X10_isIn 3 rfl) (tgt := 17) (by decide) (fun c0 => ?_) (fun c0 => ?_)
  · rw [if_pos c0] at h
    refine r_iconst (dc_X10_isIn 10 rfl) kiconst_0 ?_
    cases h
    exact r_zreturn (dc_X10_isIn 11 rfl) rfl (Or.inl rfl)
  · rw [if_neg c0] at h
    refine r_lload_n (dc_X10_isIn 4 rfl) rfl rfl ?_
    refine r_lload (dc_X10_isIn 5 rfl) rfl ?_
    refine r_lcmp (dc_X10_isIn 6 rfl) ?_
    refine r_if_gt (dc_X10_isIn 7 rfl) (tgt := 17) (by decide) (fun c0 => ?_) (fun c0 => ?_)
    · rw [if_pos c0] at h
      refine r_iconst (dc_X10_isIn 10 rfl) kiconst_0 ?_
      cases h
      exact r_zreturn (dc_X10_isIn 11 rfl) rfl (Or.inl rfl)
    · rw [if_neg c0] at h
      refine r_iconst (dc_X10_isIn 8 rfl) kiconst_1 ?_
      refine r_goto (dc_X10_isIn 9 rfl) (tgt := 18) (by decide) ?_
      cases h
      exact r_zreturn (dc_X10_isIn 11 rfl) rfl (Or.inr rfl)
theorem t_X10_flag {G : Gx} {d : Nat} (hl : G.1.stackTraces = false) (hd : 0 ≤ d) {σ : Sto} {xa0 : Int32} {r : Int32} (h : F_X10_flag xa0 = some r) : Mt G d m_X10_flag [.int xa0] σ (.inl (some (.int r))) σ := by
  rw [F_X10_flag] at h
  refine J.toMt (lo := [(0, .int xa0)]) pn_RX10 rfl hl (Nat.le_of_ble_eq_true rfl) rfl ?_
  refine r_iload_n (dc_X10_flag 0 rfl) rfl rfl ?_
  refine r_if_eq (dc_X10_flag 1 rfl) (tgt := 8) (by decide) (fun c0 => ?_) (fun c0 => ?_)
  · rw [if_pos c0] at h
    refine r_iconst (dc_X10_flag 4 rfl) kiconst_0 ?_
    cases h
    exact r_ireturn (dc_X10_flag 5 rfl) rfl
  · rw [if_neg c0] at h
    refine r_iconst (dc_X10_flag 2 rfl) kiconst_1 ?_
    refine r_goto (dc_X10_flag 3 rfl) (tgt := 9) (by decide) ?_
    cases h
    exact r_ireturn (dc_X10_flag 5 rfl) rfl
theorem l_X10_begins_L9 {G : Gx} {d : Nat} (hl : G.1.stackTraces = false) (hd : 0 ≤ d) {pL0 : Nat} {xL1 : Int32} {xL2 : Int32} {r : Sto} {k28 : Sto → Option Sto}
    (hk28 : ∀ (sL : Sto), k28 sL = some r → J G d m_X10_begins 28 [(0, .ref pL0), (1, .int xL1), (2, .int xL2)] [] sL (.inl none) r)
  : ∀ (f : Nat) (xL3 : Int32) (sL : Sto), F_X10_begins_L9 pL0 f xL3 sL k28 = some r → J G d m_X10_begins 9 [(0, .ref pL0), (1, .int xL1), (2, .int xL2), (3, .int xL3)] [] sL (.inl none) r := by
  intro f
  induction f with
  | zero => intro xL3 sL h; rw [F_X10_begins_L9] at h; cases h
  | succ f ih =>
    intro xL3 sL h
    rw [F_X10_begins_L9] at h
    refine r_iload_n (dc_X10_begins 7 rfl) rfl rfl ?_
    refine r_ldc (dc_X10_begins 8 rfl) ck_RX10_82 ?_
    refine r_icmp_ge (dc_X10_begins 9 rfl) (tgt := 28) (by decide) (fun c0 => ?_) (fun c0 => ?_)
    · rw [if_pos c0] at h
      refine r_pick [0, 1, 2] (lo' := [(0, .ref pL0), (1, .int xL1), (2, .int xL2)]) rfl ?_
      exact hk28 _ h
    · rw [if_neg c0] at h
      refine r_aload_n (dc_X10_begins 10 rfl) rfl rfl ?_
      obtain ⟨p3, e0, h⟩ := Option.bind_eq_some_iff.mp h
      refine r_getR (dc_X10_begins 11 rfl) fl_RX10_14 e0 ?_
      refine r_iload_n (dc_X10_begins 12 rfl) rfl rfl ?_
      refine r_iconst (dc_X10_begins 13 rfl) kiconst_0 ?_
      obtain ⟨s4, e0, h⟩ := Option.bind_eq_some_iff.mp h
      refine r_iast (dc_X10_begins 14 rfl) e0 ?_
      refine r_iinc (dc_X10_begins 15 rfl) rfl (kinc_1 _) (by decide) (lo' := [(3, .int (xL3 + (1 : Int32))), (0, .ref pL0), (1, .int xL1), (2, .int xL2)]) rfl ?_
      refine r_goto (dc_X10_begins 16 rfl) (tgt := 9) (by decide) ?_
      refine r_pick [1, 2, 3, 0] (lo' := [(0, .ref pL0), (1, .int xL1), (2, .int xL2), (3, .int (xL3 + (1 : Int32)))]) rfl ?_
      exact ih _ _ h
theorem t_X10_begins {G : Gx} {d : Nat} (hl : G.1.stackTraces = false) (hd : 0 ≤ d) {σ : Sto} {a0 : Nat} {xa1 : Int32} {r : Sto} (h : F_X10_begins σ a0 xa1 = some r) : Mi G d m_X10_begins 10 a0 [.int xa1] σ (.inl none) r := by
  rw [F_X10_begins] at h
  obtain ⟨hg, h⟩ := chk_some h
  refine ⟨J.toMt (lo := [(0, .ref a0), (1, .int xa1)]) pn_RX10 rfl hl (Nat.le_of_ble_eq_true rfl) rfl ?_, hg⟩
  refine r_aload_n (dc_X10_begins 0 rfl) rfl rfl ?_
  obtain ⟨p1, e0, h⟩ := Option.bind_eq_some_iff.mp h
  refine r_getR (dc_X10_begins 1 rfl) fl_RX10_14 e0 ?_
  refine r_iconst (dc_X10_begins 2 rfl) kiconst_1 ?_
  obtain ⟨x2, e0, h⟩ := Option.bind_eq_some_iff.mp h
  refine r_iald (dc_X10_begins 3 rfl) e0 ?_
  refine r_istore_n (dc_X10_begins 4 rfl) rfl (by decide) (lo' := [(2, .int x2), (0, .ref a0), (1, .int xa1)]) rfl ?_
  refine r_iconst (dc_X10_begins 5 rfl) kiconst_0 ?_
  refine r_istore_n (dc_X10_begins 6 rfl) rfl (by decide) (lo' := [(3, .int (0 : Int32)), (2, .int x2), (0, .ref a0), (1, .int xa1)]) rfl ?_
  refine r_pick [2, 3, 1, 0] (lo' := [(0, .ref a0), (1, .int xa1), (2, .int x2), (3, .int (0 : Int32))]) rfl ?_
  refine l_X10_begins_L9 hl hd (hk28 := ?_) fu _ _ h
  · intro s5 h
    refine r_aload_n (dc_X10_begins 17 rfl) rfl rfl ?_
    obtain ⟨p6, e0, h⟩ := Option.bind_eq_some_iff.mp h
    refine r_getR (dc_X10_begins 18 rfl) fl_RX10_14 e0 ?_
    refine r_iconst (dc_X10_begins 19 rfl) kiconst_0 ?_
    refine r_iload_n (dc_X10_begins 20 rfl) rfl rfl ?_
    obtain ⟨s7, e0, h⟩ := Option.bind_eq_some_iff.mp h
    refine r_iast (dc_X10_begins 21 rfl) e0 ?_
    refine r_aload_n (dc_X10_begins 22 rfl) rfl rfl ?_
    obtain ⟨p8, e0, h⟩ := Option.bind_eq_some_iff.mp h
    refine r_getR (dc_X10_begins 23 rfl) fl_RX10_14 e0 ?_
    refine r_iconst (dc_X10_begins 24 rfl) kiconst_1 ?_
    refine r_iload_n (dc_X10_begins 25 rfl) rfl rfl ?_
    obtain ⟨s9, e0, h⟩ := Option.bind_eq_some_iff.mp h
    refine r_iast (dc_X10_begins 26 rfl) e0 ?_
    refine r_aload_n (dc_X10_begins 27 rfl) rfl rfl ?_
    refine r_iconst (dc_X10_begins 28 rfl) kiconst_0 ?_
    obtain ⟨s10, e0, h⟩ := Option.bind_eq_some_iff.mp h
    refine r_put (dc_X10_begins 29 rfl) pl_RX10_83 rfl e0 ?_
    cases h
    exact r_vreturn (dc_X10_begins 30 rfl) rfl
theorem t_X10_init {G : Gx} {d : Nat} (hl : G.1.stackTraces = false) (hd : 1 ≤ d) {σ : Sto} {a0 : Nat} {r : Sto} (h : F_X10_init σ a0 = some r) : Mt G d m_X10_init [Value.ref a0] σ (.inl none) r := by
  rw [F_X10_init] at h
  refine J.toMt (lo := [(0, .ref a0)]) pn_RX10 rfl hl (Nat.le_of_ble_eq_true rfl) rfl ?_
  refine r_aload_n (dc_X10_init 0 rfl) rfl rfl ?_
  refine r_objInit (dc_X10_init 1 rfl) ml_RX10_7 w_obj1 w_obj2 (by omega) (Nat.le_of_ble_eq_true rfl) ?_
  refine r_aload_n (dc_X10_init 2 rfl) rfl rfl ?_
  refine r_ldc (dc_X10_init 3 rfl) ck_RX10_13 ?_
  obtain ⟨p2, s1, ev, es, h⟩ := nw_some h
  refine r_newI (dc_X10_init 4 rfl) ac_int (by decide) (by decide +kernel) ?_
  rw [← ev, ← es]
  obtain ⟨s3, e0, h⟩ := Option.bind_eq_some_iff.mp h
  refine r_putX (dc_X10_init 5 rfl) pl_RX10_14 (Or.inr ⟨rfl, fun q hq => by cases hq; rfl⟩) rfl e0 ?_
  refine r_aload_n (dc_X10_init 6 rfl) rfl rfl ?_
  refine r_iconst (dc_X10_init 7 rfl) kiconst_2 ?_
  obtain ⟨p5, s4, ev, es, h⟩ := nw_some h
  refine r_newZ (dc_X10_init 8 rfl) ac_boolean (by decide) (by decide +kernel) ?_
  rw [← ev, ← es]
  obtain ⟨s6, e0, h⟩ := Option.bind_eq_some_iff.mp h
  refine r_putX (dc_X10_init 9 rfl) pl_RX10_18 (Or.inr ⟨rfl, fun q hq => by cases hq; rfl⟩) rfl e0 ?_
  refine r_aload_n (dc_X10_init 10 rfl) rfl rfl ?_
  refine r_sipush (dc_X10_init 11 rfl) ksipush_128 ?_
  obtain ⟨p8, s7, ev, es, h⟩ := nw_some h
  refine r_newI (dc_X10_init 12 rfl) ac_int (by decide) (by decide +kernel) ?_
  rw [← ev, ← es]
  obtain ⟨s9, e0, h⟩ := Option.bind_eq_some_iff.mp h
  refine r_putX (dc_X10_init 13 rfl) pl_RX10_22 (Or.inr ⟨rfl, fun q hq => by cases hq; rfl⟩) rfl e0 ?_
  refine r_aload_n (dc_X10_init 14 rfl) rfl rfl ?_
  refine r_bipush (dc_X10_init 15 rfl) kbipush_120 ?_
  obtain ⟨p11, s10, ev, es, h⟩ := nw_some h
  refine r_newI (dc_X10_init 16 rfl) ac_int (by decide) (by decide +kernel) ?_
  rw [← ev, ← es]
  obtain ⟨s12, e0, h⟩ := Option.bind_eq_some_iff.mp h
  refine r_putX (dc_X10_init 17 rfl) pl_RX10_25 (Or.inr ⟨rfl, fun q hq => by cases hq; rfl⟩) rfl e0 ?_
  refine r_aload_n (dc_X10_init 18 rfl) rfl rfl ?_
  refine r_bipush (dc_X10_init 19 rfl) kbipush_120 ?_
  obtain ⟨p14, s13, ev, es, h⟩ := nw_some h
  refine r_newZ (dc_X10_init 20 rfl) ac_boolean (by decide) (by decide +kernel) ?_
  rw [← ev, ← es]
  obtain ⟨s15, e0, h⟩ := Option.bind_eq_some_iff.mp h
  refine r_putX (dc_X10_init 21 rfl) pl_RX10_28 (Or.inr ⟨rfl, fun q hq => by cases hq; rfl⟩) rfl e0 ?_
  refine r_aload_n (dc_X10_init 22 rfl) rfl rfl ?_
  refine r_bipush (dc_X10_init 23 rfl) kbipush_120 ?_
  obtain ⟨p17, s16, ev, es, h⟩ := nw_some h
  refine r_newI (dc_X10_init 24 rfl) ac_int (by decide) (by decide +kernel) ?_
  rw [← ev, ← es]
  obtain ⟨s18, e0, h⟩ := Option.bind_eq_some_iff.mp h
  refine r_putX (dc_X10_init 25 rfl) pl_RX10_31 (Or.inr ⟨rfl, fun q hq => by cases hq; rfl⟩) rfl e0 ?_
  refine r_aload_n (dc_X10_init 26 rfl) rfl rfl ?_
  refine r_bipush (dc_X10_init 27 rfl) kbipush_120 ?_
  obtain ⟨p20, s19, ev, es, h⟩ := nw_some h
  refine r_newI (dc_X10_init 28 rfl) ac_int (by decide) (by decide +kernel) ?_
  rw [← ev, ← es]
  obtain ⟨s21, e0, h⟩ := Option.bind_eq_some_iff.mp h
  refine r_putX (dc_X10_init 29 rfl) pl_RX10_34 (Or.inr ⟨rfl, fun q hq => by cases hq; rfl⟩) rfl e0 ?_
  refine r_aload_n (dc_X10_init 30 rfl) rfl rfl ?_
  refine r_bipush (dc_X10_init 31 rfl) kbipush_120 ?_
  obtain ⟨p23, s22, ev, es, h⟩ := nw_some h
  refine r_newI (dc_X10_init 32 rfl) ac_int (by decide) (by decide +kernel) ?_
  rw [← ev, ← es]
  obtain ⟨s24, e0, h⟩ := Option.bind_eq_some_iff.mp h
  refine r_putX (dc_X10_init 33 rfl) pl_RX10_37 (Or.inr ⟨rfl, fun q hq => by cases hq; rfl⟩) rfl e0 ?_
  refine r_aload_n (dc_X10_init 34 rfl) rfl rfl ?_
  refine r_sipush (dc_X10_init 35 rfl) ksipush_4096 ?_
  obtain ⟨p26, s25, ev, es, h⟩ := nw_some h
  refine r_newZ (dc_X10_init 36 rfl) ac_boolean (by decide) (by decide +kernel) ?_
  rw [← ev, ← es]
  obtain ⟨s27, e0, h⟩ := Option.bind_eq_some_iff.mp h
  refine r_putX (dc_X10_init 37 rfl) pl_RX10_40 (Or.inr ⟨rfl, fun q hq => by cases hq; rfl⟩) rfl e0 ?_
  refine r_aload_n (dc_X10_init 38 rfl) rfl rfl ?_
  refine r_sipush (dc_X10_init 39 rfl) ksipush_4096 ?_
  obtain ⟨p29, s28, ev, es, h⟩ := nw_some h
  refine r_newI (dc_X10_init 40 rfl) ac_int (by decide) (by decide +kernel) ?_
  rw [← ev, ← es]
  obtain ⟨s30, e0, h⟩ := Option.bind_eq_some_iff.mp h
  refine r_putX (dc_X10_init 41 rfl) pl_RX10_43 (Or.inr ⟨rfl, fun q hq => by cases hq; rfl⟩) rfl e0 ?_
  refine r_aload_n (dc_X10_init 42 rfl) rfl rfl ?_
  refine r_sipush (dc_X10_init 43 rfl) ksipush_4096 ?_
  obtain ⟨p32, s31, ev, es, h⟩ := nw_some h
  refine r_newI (dc_X10_init 44 rfl) ac_int (by decide) (by decide +kernel) ?_
  rw [← ev, ← es]
  obtain ⟨s33, e0, h⟩ := Option.bind_eq_some_iff.mp h
  refine r_putX (dc_X10_init 45 rfl) pl_RX10_46 (Or.inr ⟨rfl, fun q hq => by cases hq; rfl⟩) rfl e0 ?_
  refine r_aload_n (dc_X10_init 46 rfl) rfl rfl ?_
  refine r_sipush (dc_X10_init 47 rfl) ksipush_4096 ?_
  obtain ⟨p35, s34, ev, es, h⟩ := nw_some h
  refine r_newI (dc_X10_init 48 rfl) ac_int (by decide) (by decide +kernel) ?_
  rw [← ev, ← es]
  obtain ⟨s36, e0, h⟩ := Option.bind_eq_some_iff.mp h
  refine r_putX (dc_X10_init 49 rfl) pl_RX10_49 (Or.inr ⟨rfl, fun q hq => by cases hq; rfl⟩) rfl e0 ?_
  refine r_aload_n (dc_X10_init 50 rfl) rfl rfl ?_
  refine r_sipush (dc_X10_init 51 rfl) ksipush_4096 ?_
  obtain ⟨p38, s37, ev, es, h⟩ := nw_some h
  refine r_newI (dc_X10_init 52 rfl) ac_int (by decide) (by decide +kernel) ?_
  rw [← ev, ← es]
  obtain ⟨s39, e0, h⟩ := Option.bind_eq_some_iff.mp h
  refine r_putX (dc_X10_init 53 rfl) pl_RX10_52 (Or.inr ⟨rfl, fun q hq => by cases hq; rfl⟩) rfl e0 ?_
  refine r_aload_n (dc_X10_init 54 rfl) rfl rfl ?_
  refine r_iconst (dc_X10_init 55 rfl) kiconst_3 ?_
  obtain ⟨s40, e0, h⟩ := Option.bind_eq_some_iff.mp h
  refine r_callV (dc_X10_init 56 rfl) mv_X10_begins ml_RX10_55 (As := [.int (3 : Int32)]) (t_X10_begins (d := d - 1) hl (by omega) e0) (by omega) rfl (Nat.le_of_ble_eq_true rfl) ?_
  cases h
  exact r_vreturn (dc_X10_init 57 rfl) rfl
theorem t_X10_of {G : Gx} {d : Nat} (hl : G.1.stackTraces = false) (hd : 0 ≤ d) {σ : Sto} {a0 : Nat} {xa1 : Int32} {r : Int32} (h : F_X10_of σ a0 xa1 = some r) : Mi G d m_X10_of 10 a0 [.int xa1] σ (.inl (some (.int r))) σ := by
  rw [F_X10_of] at h
  obtain ⟨hg, h⟩ := chk_some h
  refine ⟨J.toMt (lo := [(0, .ref a0), (1, .int xa1)]) pn_RX10 rfl hl (Nat.le_of_ble_eq_true rfl) rfl ?_, hg⟩
  refine r_aload_n (dc_X10_of 0 rfl) rfl rfl ?_
  obtain ⟨p1, e0, h⟩ := Option.bind_eq_some_iff.mp h
  refine r_getR (dc_X10_of 1 rfl) fl_RX10_14 e0 ?_
  refine r_aload_n (dc_X10_of 2 rfl) rfl rfl ?_
  obtain ⟨x2, e0, h⟩ := Option.bind_eq_some_iff.mp h
  refine r_getI (dc_X10_of 3 rfl) fl_RX10_59 e0 ?_
  refine r_iload_n (dc_X10_of 4 rfl) rfl rfl ?_
  refine r_iadd (dc_X10_of 5 rfl) ?_
  obtain ⟨x3, e0, h⟩ := Option.bind_eq_some_iff.mp h
  refine r_iald (dc_X10_of 6 rfl) e0 ?_
  cases h
  exact r_ireturn (dc_X10_of 7 rfl) rfl
theorem t_X10_set {G : Gx} {d : Nat} (hl : G.1.stackTraces = false) (hd : 0 ≤ d) {σ : Sto} {a0 : Nat} {xa1 : Int32} {xa2 : Int32} {r : Sto} (h : F_X10_set σ a0 xa1 xa2 = some r) : Mi G d m_X10_set 10 a0 [.int xa1, .int xa2] σ (.inl none) r := by
  rw [F_X10_set] at h
  obtain ⟨hg, h⟩ := chk_some h
  refine ⟨J.toMt (lo := [(0, .ref a0), (1, .int xa1), (2, .int xa2)]) pn_RX10 rfl hl (Nat.le_of_ble_eq_true rfl) rfl ?_, hg⟩
  refine r_aload_n (dc_X10_set 0 rfl) rfl rfl ?_
  obtain ⟨p1, e0, h⟩ := Option.bind_eq_some_iff.mp h
  refine r_getR (dc_X10_set 1 rfl) fl_RX10_14 e0 ?_
  refine r_aload_n (dc_X10_set 2 rfl) rfl rfl ?_
  obtain ⟨x2, e0, h⟩ := Option.bind_eq_some_iff.mp h
  refine r_getI (dc_X10_set 3 rfl) fl_RX10_59 e0 ?_
  refine r_iload_n (dc_X10_set 4 rfl) rfl rfl ?_
  refine r_iadd (dc_X10_set 5 rfl) ?_
  refine r_iload_n (dc_X10_set 6 rfl) rfl rfl ?_
  obtain ⟨s3, e0, h⟩ := Option.bind_eq_some_iff.mp h
  refine r_iast (dc_X10_set 7 rfl) e0 ?_
  cases h
  exact r_vreturn (dc_X10_set 8 rfl) rfl
theorem t_X10_more {G : Gx} {d : Nat} (hl : G.1.stackTraces = false) (hd : 0 ≤ d) {σ : Sto} {a0 : Nat} {xa1 : Int32} {xa2 : Int32} {r : Sto} (h : F_X10_more σ a0 xa1 xa2 = some r) : Mi G d m_X10_more 10 a0 [.int xa1, .int xa2] σ (.inl none) r := by
  rw [F_X10_more] at h
  obtain ⟨hg, h⟩ := chk_some h
  refine ⟨J.toMt (lo := [(0, .ref a0), (1, .int xa1), (2, .int xa2)]) pn_RX10 rfl hl (Nat.le_of_ble_eq_true rfl) rfl ?_, hg⟩
  refine r_aload_n (dc_X10_more 0 rfl) rfl rfl ?_
  obtain ⟨p1, e0, h⟩ := Option.bind_eq_some_iff.mp h
  refine r_getR (dc_X10_more 1 rfl) fl_RX10_14 e0 ?_
  refine r_aload_n (dc_X10_more 2 rfl) rfl rfl ?_
  obtain ⟨x2, e0, h⟩ := Option.bind_eq_some_iff.mp h
  refine r_getI (dc_X10_more 3 rfl) fl_RX10_59 e0 ?_
  refine r_iload_n (dc_X10_more 4 rfl) rfl rfl ?_
  refine r_iadd (dc_X10_more 5 rfl) ?_
  refine r_dup2 (dc_X10_more 6 rfl) rfl rfl ?_
  obtain ⟨x3, e0, h⟩ := Option.bind_eq_some_iff.mp h
  refine r_iald (dc_X10_more 7 rfl) e0 ?_
  refine r_iload_n (dc_X10_more 8 rfl) rfl rfl ?_
  refine r_iadd (dc_X10_more 9 rfl) ?_
  obtain ⟨s4, e0, h⟩ := Option.bind_eq_some_iff.mp h
  refine r_iast (dc_X10_more 10 rfl) e0 ?_
  cases h
  exact r_vreturn (dc_X10_more 11 rfl) rfl
theorem t_X10_isOf {G : Gx} {d : Nat} (hl : G.1.stackTraces = false) (hd : 1 ≤ d) {σ : Sto} {a0 : Nat} {xa1 : Int32} {xa2 : Int32} {r : Int32} (h : F_X10_isOf σ a0 xa1 xa2 = some r) : Mi G d m_X10_isOf 10 a0 [.int xa1, .int xa2] σ (.inl (some (.int r))) σ := by
  rw [F_X10_isOf] at h
  obtain ⟨hg, h⟩ := chk_some h
  refine ⟨J.toMt (lo := [(0, .ref a0), (1, .int xa1), (2, .int xa2)]) pn_RX10 rfl hl (Nat.le_of_ble_eq_true rfl) rfl ?_, hg⟩
  refine r_aload_n (dc_X10_isOf 0 rfl) rfl rfl ?_
  refine r_iload_n (dc_X10_isOf 1 rfl) rfl rfl ?_
  refine r_iload_n (dc_X10_isOf 2 rfl) rfl rfl ?_
  refine r_bipush (dc_X10_isOf 3 rfl) kbipush_32 ?_
  refine r_idiv (dc_X10_isOf 4 rfl) (by decide) ?_
  refine r_iadd (dc_X10_isOf 5 rfl) ?_
  obtain ⟨x1, e0, h⟩ := Option.bind_eq_some_iff.mp h
  refine r_callV (dc_X10_isOf 6 rfl) mv_X10_of ml_RX10_62 (As := [.int (xa1 + (xa2 / (32 : Int32)))]) (t_X10_of (d := d - 1) hl (by omega) e0) (by omega) rfl (Nat.le_of_ble_eq_true rfl) ?_
  refine r_iload_n (dc_X10_isOf 7 rfl) rfl rfl ?_
  refine r_bipush (dc_X10_isOf 8 rfl) kbipush_32 ?_
  refine r_irem (dc_X10_isOf 9 rfl) (by decide) ?_
  refine r_ishr (dc_X10_isOf 10 rfl) ?_
  refine r_iconst (dc_X10_isOf 11 rfl) kiconst_1 ?_
  refine r_iand (dc_X10_isOf 12 rfl) ?_
  refine r_iconst (dc_X10_isOf 13 rfl) kiconst_1 ?_
  refine r_icmp_ne (dc_X10_isOf 14 rfl) (tgt := 25) (by decide) (fun c0 => ?_) (fun c0 => ?_)
  · rw [if_neg c0] at h
    refine r_iconst (dc_X10_isOf 17 rfl) kiconst_0 ?_
    cases h
    exact r_zreturn (dc_X10_isOf 18 rfl) rfl (Or.inl rfl)
  · rw [if_pos c0] at h
    refine r_iconst (dc_X10_isOf 15 rfl) kiconst_1 ?_
    refine r_goto (dc_X10_isOf 16 rfl) (tgt := 26) (by decide) ?_
    cases h
    exact r_zreturn (dc_X10_isOf 18 rfl) rfl (Or.inr rfl)
theorem t_X10_sets {G : Gx} {d : Nat} (hl : G.1.stackTraces = false) (hd : 1 ≤ d) {σ : Sto} {a0 : Nat} {xa1 : Int32} {xa2 : Int32} {xa3 : Int32} {r : Sto} (h : F_X10_sets σ a0 xa1 xa2 xa3 = some r) : Mi G d m_X10_sets 10 a0 [.int xa1, .int xa2, .int xa3] σ (.inl none) r := by
  rw [F_X10_sets] at h
  obtain ⟨hg, h⟩ := chk_some h
  refine ⟨J.toMt (lo := [(0, .ref a0), (1, .int xa1), (2, .int xa2), (3, .int xa3)]) pn_RX10 rfl hl (Nat.le_of_ble_eq_true rfl) rfl ?_, hg⟩
  refine r_iconst (dc_X10_sets 0 rfl) kiconst_1 ?_
  refine r_iload_n (dc_X10_sets 1 rfl) rfl rfl ?_
  refine r_bipush (dc_X10_sets 2 rfl) kbipush_32 ?_
  refine r_irem (dc_X10_sets 3 rfl) (by decide) ?_
  refine r_ishl (dc_X10_sets 4 rfl) ?_
  refine r_istore (dc_X10_sets 5 rfl) (by decide) (lo' := [(4, .int ((1 : Int32) <<< ((xa2 - xa2 / (32 : Int32) * (32 : Int32)) &&& 31))), (0, .ref a0), (1, .int xa1), (2, .int xa2), (3, .int xa3)]) rfl ?_
  refine r_aload_n (dc_X10_sets 6 rfl) rfl rfl ?_
  refine r_iload_n (dc_X10_sets 7 rfl) rfl rfl ?_
  refine r_iload_n (dc_X10_sets 8 rfl) rfl rfl ?_
  refine r_bipush (dc_X10_sets 9 rfl) kbipush_32 ?_
  refine r_idiv (dc_X10_sets 10 rfl) (by decide) ?_
  refine r_iadd (dc_X10_sets 11 rfl) ?_
  refine r_iload_n (dc_X10_sets 12 rfl) rfl rfl ?_
  refine r_if_eq (dc_X10_sets 13 rfl) (tgt := 35) (by decide) (fun c0 => ?_) (fun c0 => ?_)
  · rw [if_pos c0] at h
    refine r_aload_n (dc_X10_sets 24 rfl) rfl rfl ?_
    refine r_iload_n (dc_X10_sets 25 rfl) rfl rfl ?_
    refine r_iload_n (dc_X10_sets 26 rfl) rfl rfl ?_
    refine r_bipush (dc_X10_sets 27 rfl) kbipush_32 ?_
    refine r_idiv (dc_X10_sets 28 rfl) (by decide) ?_
    refine r_iadd (dc_X10_sets 29 rfl) ?_
    obtain ⟨x1, e0, h⟩ := Option.bind_eq_some_iff.mp h
    refine r_callV (dc_X10_sets 30 rfl) mv_X10_of ml_RX10_62 (As := [.int (xa1 + (xa2 / (32 : Int32)))]) (t_X10_of (d := d - 1) hl (by omega) e0) (by omega) rfl (Nat.le_of_ble_eq_true rfl) ?_
    refine r_iload (dc_X10_sets 31 rfl) rfl ?_
    refine r_iconst (dc_X10_sets 32 rfl) kiconst_m1 ?_
    refine r_ixor (dc_X10_sets 33 rfl) ?_
    refine r_iand (dc_X10_sets 34 rfl) ?_
    obtain ⟨s2, e0, h⟩ := Option.bind_eq_some_iff.mp h
    refine r_callV (dc_X10_sets 35 rfl) mv_X10_set ml_RX10_66 (As := [.int (xa1 + (xa2 / (32 : Int32))), .int (x1 &&& (((1 : Int32) <<< ((xa2 - xa2 / (32 : Int32) * (32 : Int32)) &&& 31)) ^^^ (-1 : Int32)))]) (t_X10_set (d := d - 1) hl (by omega) e0) (by omega) rfl (Nat.le_of_ble_eq_true rfl) ?_
    cases h
    exact r_vreturn (dc_X10_sets 36 rfl) rfl
  · rw [if_neg c0] at h
    refine r_aload_n (dc_X10_sets 14 rfl) rfl rfl ?_
    refine r_iload_n (dc_X10_sets 15 rfl) rfl rfl ?_
    refine r_iload_n (dc_X10_sets 16 rfl) rfl rfl ?_
    refine r_bipush (dc_X10_sets 17 rfl) kbipush_32 ?_
    refine r_idiv (dc_X10_sets 18 rfl) (by decide) ?_
    refine r_iadd (dc_X10_sets 19 rfl) ?_
    obtain ⟨x3, e0, h⟩ := Option.bind_eq_some_iff.mp h
    refine r_callV (dc_X10_sets 20 rfl) mv_X10_of ml_RX10_62 (As := [.int (xa1 + (xa2 / (32 : Int32)))]) (t_X10_of (d := d - 1) hl (by omega) e0) (by omega) rfl (Nat.le_of_ble_eq_true rfl) ?_
    refine r_iload (dc_X10_sets 21 rfl) rfl ?_
    refine r_ior (dc_X10_sets 22 rfl) ?_
    refine r_goto (dc_X10_sets 23 rfl) (tgt := 50) (by decide) ?_
    obtain ⟨s4, e0, h⟩ := Option.bind_eq_some_iff.mp h
    refine r_callV (dc_X10_sets 35 rfl) mv_X10_set ml_RX10_66 (As := [.int (xa1 + (xa2 / (32 : Int32))), .int (x3 ||| ((1 : Int32) <<< ((xa2 - xa2 / (32 : Int32) * (32 : Int32)) &&& 31)))]) (t_X10_set (d := d - 1) hl (by omega) e0) (by omega) rfl (Nat.le_of_ble_eq_true rfl) ?_
    cases h
    exact r_vreturn (dc_X10_sets 36 rfl) rfl
theorem l_X10_bitsOf_L4 {G : Gx} {d : Nat} (hl : G.1.stackTraces = false) (hd : 2 ≤ d) {sL : Sto} {pL0 : Nat} {xL1 : Int32} {r : Int32} {k31 : Int32 → Option Int32}
    (hk31 : ∀ (xL2 : Int32), k31 xL2 = some r → J G d m_X10_bitsOf 31 [(2, .int xL2)] [] sL (.inl (some (.int r))) sL)
  : ∀ (f : Nat) (xL2 : Int32) (xL3 : Int32), F_X10_bitsOf_L4 sL pL0 xL1 f xL2 xL3 k31 = some r → J G d m_X10_bitsOf 4 [(0, .ref pL0), (1, .int xL1), (2, .int xL2), (3, .int xL3)] [] sL (.inl (some (.int r))) sL := by
  intro f
  induction f with
  | zero => intro xL2 xL3 h; rw [F_X10_bitsOf_L4] at h; cases h
  | succ f ih =>
    intro xL2 xL3 h
    rw [F_X10_bitsOf_L4] at h
    refine r_iload_n (dc_X10_bitsOf 4 rfl) rfl rfl ?_
    refine r_aload_n (dc_X10_bitsOf 5 rfl) rfl rfl ?_
    refine r_iconst (dc_X10_bitsOf 6 rfl) kiconst_2 ?_
    obtain ⟨x1, e0, h⟩ := Option.bind_eq_some_iff.mp h
    refine r_callV (dc_X10_bitsOf 7 rfl) mv_X10_of ml_RX10_62 (As := [.int (2 : Int32)]) (t_X10_of (d := d - 1) hl (by omega) e0) (by omega) rfl (Nat.le_of_ble_eq_true rfl) ?_
    refine r_icmp_ge (dc_X10_bitsOf 8 rfl) (tgt := 31) (by decide) (fun c0 => ?_) (fun c0 => ?_)
    · rw [if_pos c0] at h
      refine r_pick [2] (lo' := [(2, .int xL2)]) rfl ?_
      exact hk31 _ h
    · rw [if_neg c0] at h
      refine r_iload_n (dc_X10_bitsOf 9 rfl) rfl rfl ?_
      refine r_aload_n (dc_X10_bitsOf 10 rfl) rfl rfl ?_
      refine r_iload_n (dc_X10_bitsOf 11 rfl) rfl rfl ?_
      refine r_iload_n (dc_X10_bitsOf 12 rfl) rfl rfl ?_
      obtain ⟨x2, e0, h⟩ := Option.bind_eq_some_iff.mp h
      refine r_callV (dc_X10_bitsOf 13 rfl) mv_X10_isOf ml_RX10_70 (As := [.int xL1, .int xL3]) (t_X10_isOf (d := d - 1) hl (by omega) e0) (by omega) rfl (Nat.le_of_ble_eq_true rfl) ?_
      obtain ⟨x3, e0, h⟩ := Option.bind_eq_some_iff.mp h
      refine r_callS (dc_X10_bitsOf 14 rfl) ms_X10_flag ml_RX10_74 (As := [.int x2]) (t_X10_flag (d := d - 1) hl (by omega) e0) (by omega) rfl (Nat.le_of_ble_eq_true rfl) ?_
      refine r_iadd (dc_X10_bitsOf 15 rfl) ?_
      refine r_istore_n (dc_X10_bitsOf 16 rfl) rfl (by decide) (lo' := [(2, .int (xL2 + x3)), (0, .ref pL0), (1, .int xL1), (3, .int xL3)]) rfl ?_
      refine r_iinc (dc_X10_bitsOf 17 rfl) rfl (kinc_1 _) (by decide) (lo' := [(3, .int (xL3 + (1 : Int32))), (2, .int (xL2 + x3)), (0, .ref pL0), (1, .int xL1)]) rfl ?_
      refine r_goto (dc_X10_bitsOf 18 rfl) (tgt := 4) (by decide) ?_
      refine r_pick [2, 3, 1, 0] (lo' := [(0, .ref pL0), (1, .int xL1), (2, .int (xL2 + x3)), (3, .int (xL3 + (1 : Int32)))]) rfl ?_
      exact ih _ _ h
theorem t_X10_bitsOf {G : Gx} {d : Nat} (hl : G.1.stackTraces = false) (hd : 2 ≤ d) {σ : Sto} {a0 : Nat} {xa1 : Int32} {r : Int32} (h : F_X10_bitsOf σ a0 xa1 = some r) : Mi G d m_X10_bitsOf 10 a0 [.int xa1] σ (.inl (some (.int r))) σ := by
  rw [F_X10_bitsOf] at h
  obtain ⟨hg, h⟩ := chk_some h
  refine ⟨J.toMt (lo := [(0, .ref a0), (1, .int xa1)]) pn_RX10 rfl hl (Nat.le_of_ble_eq_true rfl) rfl ?_, hg⟩
  refine r_iconst (dc_X10_bitsOf 0 rfl) kiconst_0 ?_
  refine r_istore_n (dc_X10_bitsOf 1 rfl) rfl (by decide) (lo' := [(2, .int (0 : Int32)), (0, .ref a0), (1, .int xa1)]) rfl ?_
  refine r_iconst (dc_X10_bitsOf 2 rfl) kiconst_0 ?_
  refine r_istore_n (dc_X10_bitsOf 3 rfl) rfl (by decide) (lo' := [(3, .int (0 : Int32)), (2, .int (0 : Int32)), (0, .ref a0), (1, .int xa1)]) rfl ?_
  refine r_pick [2, 3, 1, 0] (lo' := [(0, .ref a0), (1, .int xa1), (2, .int (0 : Int32)), (3, .int (0 : Int32))]) rfl ?_
  refine l_X10_bitsOf_L4 hl hd (hk31 := ?_) fu _ _ h
  · intro x4 h
    refine r_iload_n (dc_X10_bitsOf 19 rfl) rfl rfl ?_
    cases h
    exact r_ireturn (dc_X10_bitsOf 20 rfl) rfl
theorem t_X10_stateOf {G : Gx} {d : Nat} (hl : G.1.stackTraces = false) (hd : 0 ≤ d) {σ : Sto} {xa0 : Int32} {r : Int32} (h : F_X10_stateOf xa0 = some r) : Mt G d m_X10_stateOf [.int xa0] σ (.inl (some (.int r))) σ := by
  rw [F_X10_stateOf] at h
  refine J.toMt (lo := [(0, .int xa0)]) pn_RX10 rfl hl (Nat.le_of_ble_eq_true rfl) rfl ?_
  refine r_bipush (dc_X10_stateOf 0 rfl) kbipush_8 ?_
  refine r_sipush (dc_X10_stateOf 1 rfl) ksipush_789 ?_
  refine r_iload_n (dc_X10_stateOf 2 rfl) rfl rfl ?_
  refine r_imul (dc_X10_stateOf 3 rfl) ?_
  refine r_iadd (dc_X10_stateOf 4 rfl) ?_
  refine r_iconst (dc_X10_stateOf 5 rfl) kiconst_1 ?_
  refine r_iadd (dc_X10_stateOf 6 rfl) ?_
  cases h
  exact r_ireturn (dc_X10_stateOf 7 rfl) rfl
theorem t_X10_clockOf {G : Gx} {d : Nat} (hl : G.1.stackTraces = false) (hd : 0 ≤ d) {σ : Sto} {xa0 : Int32} {r : Int32} (h : F_X10_clockOf xa0 = some r) : Mt G d m_X10_clockOf [.int xa0] σ (.inl (some (.int r))) σ := by
  rw [F_X10_clockOf] at h
  refine J.toMt (lo := [(0, .int xa0)]) pn_RX10 rfl hl (Nat.le_of_ble_eq_true rfl) rfl ?_
  refine r_bipush (dc_X10_clockOf 0 rfl) kbipush_8 ?_
  refine r_sipush (dc_X10_clockOf 1 rfl) ksipush_789 ?_
  refine r_iload_n (dc_X10_clockOf 2 rfl) rfl rfl ?_
  refine r_imul (dc_X10_clockOf 3 rfl) ?_
  refine r_iadd (dc_X10_clockOf 4 rfl) ?_
  cases h
  exact r_ireturn (dc_X10_clockOf 5 rfl) rfl
theorem t_X10_eventOf {G : Gx} {d : Nat} (hl : G.1.stackTraces = false) (hd : 0 ≤ d) {σ : Sto} {xa0 : Int32} {r : Int32} (h : F_X10_eventOf xa0 = some r) : Mt G d m_X10_eventOf [.int xa0] σ (.inl (some (.int r))) σ := by
  rw [F_X10_eventOf] at h
  refine J.toMt (lo := [(0, .int xa0)]) pn_RX10 rfl hl (Nat.le_of_ble_eq_true rfl) rfl ?_
  refine r_sipush (dc_X10_eventOf 0 rfl) ksipush_3953 ?_
  refine r_bipush (dc_X10_eventOf 1 rfl) kbipush_10 ?_
  refine r_iload_n (dc_X10_eventOf 2 rfl) rfl rfl ?_
  refine r_imul (dc_X10_eventOf 3 rfl) ?_
  refine r_iadd (dc_X10_eventOf 4 rfl) ?_
  cases h
  exact r_ireturn (dc_X10_eventOf 5 rfl) rfl
theorem t_X10_couple {G : Gx} {d : Nat} (hl : G.1.stackTraces = false) (hd : 0 ≤ d) {σ : Sto} {xa0 : Int32} {xa1 : Int32} {r : Int32} (h : F_X10_couple xa0 xa1 = some r) : Mt G d m_X10_couple [.int xa0, .int xa1] σ (.inl (some (.int r))) σ := by
  rw [F_X10_couple] at h
  refine J.toMt (lo := [(0, .int xa0), (1, .int xa1)]) pn_RX10 rfl hl (Nat.le_of_ble_eq_true rfl) rfl ?_
  refine r_iconst (dc_X10_couple 0 rfl) kiconst_5 ?_
  refine r_iload_n (dc_X10_couple 1 rfl) rfl rfl ?_
  refine r_imul (dc_X10_couple 2 rfl) ?_
  refine r_iload_n (dc_X10_couple 3 rfl) rfl rfl ?_
  refine r_iadd (dc_X10_couple 4 rfl) ?_
  cases h
  exact r_ireturn (dc_X10_couple 5 rfl) rfl
theorem t_X10_letterOf {G : Gx} {d : Nat} (hl : G.1.stackTraces = false) (hd : 1 ≤ d) {σ : Sto} {xa0 : Int32} {xa1 : Int32} {xa2 : Int32} {r : Int32} (h : F_X10_letterOf xa0 xa1 xa2 = some r) : Mt G d m_X10_letterOf [.int xa0, .int xa1, .int xa2] σ (.inl (some (.int r))) σ := by
  rw [F_X10_letterOf] at h
  refine J.toMt (lo := [(0, .int xa0), (1, .int xa1), (2, .int xa2)]) pn_RX10 rfl hl (Nat.le_of_ble_eq_true rfl) rfl ?_
  refine r_sipush (dc_X10_letterOf 0 rfl) ksipush_5178 ?_
  refine r_sipush (dc_X10_letterOf 1 rfl) ksipush_147 ?_
  refine r_bipush (dc_X10_letterOf 2 rfl) kbipush_12 ?_
  refine r_iload_n (dc_X10_letterOf 3 rfl) rfl rfl ?_
  refine r_iload_n (dc_X10_letterOf 4 rfl) rfl rfl ?_
  obtain ⟨x1, e0, h⟩ := Option.bind_eq_some_iff.mp h
  refine r_callS (dc_X10_letterOf 5 rfl) ms_X10_couple ml_RX10_78 (As := [.int xa0, .int xa1]) (t_X10_couple (d := d - 1) hl (by omega) e0) (by omega) rfl (Nat.le_of_ble_eq_true rfl) ?_
  refine r_imul (dc_X10_letterOf 6 rfl) ?_
  refine r_iload_n (dc_X10_letterOf 7 rfl) rfl rfl ?_
  refine r_iadd (dc_X10_letterOf 8 rfl) ?_
  refine r_imul (dc_X10_letterOf 9 rfl) ?_
  refine r_iadd (dc_X10_letterOf 10 rfl) ?_
  cases h
  exact r_ireturn (dc_X10_letterOf 11 rfl) rfl
theorem l_X10_copies_L2 {G : Gx} {d : Nat} (hl : G.1.stackTraces = false) (hd : 0 ≤ d) {pL0 : Nat} {xL1 : Int32} {xL2 : Int32} {r : Sto} {k30 : Sto → Option Sto}
    (hk30 : ∀ (sL : Sto), k30 sL = some r → J G d m_X10_copies 30 [] [] sL (.inl none) r)
  : ∀ (f : Nat) (xL3 : Int32) (sL : Sto), F_X10_copies_L2 pL0 xL1 xL2 f xL3 sL k30 = some r → J G d m_X10_copies 2 [(0, .ref pL0), (1, .int xL1), (2, .int xL2), (3, .int xL3)] [] sL (.inl none) r := by
  intro f
  induction f with
  | zero => intro xL3 sL h; rw [F_X10_copies_L2] at h; cases h
  | succ f ih =>
    intro xL3 sL h
    rw [F_X10_copies_L2] at h
    refine r_iload_n (dc_X10_copies 2 rfl) rfl rfl ?_
    refine r_ldc (dc_X10_copies 3 rfl) ck_RX10_82 ?_
    refine r_icmp_ge (dc_X10_copies 4 rfl) (tgt := 30) (by decide) (fun c0 => ?_) (fun c0 => ?_)
    · rw [if_pos c0] at h
      refine r_pick [] (lo' := []) rfl ?_
      exact hk30 _ h
    · rw [if_neg c0] at h
      refine r_aload_n (dc_X10_copies 5 rfl) rfl rfl ?_
      obtain ⟨p1, e0, h⟩ := Option.bind_eq_some_iff.mp h
      refine r_getR (dc_X10_copies 6 rfl) fl_RX10_14 e0 ?_
      refine r_iload_n (dc_X10_copies 7 rfl) rfl rfl ?_
      refine r_iload_n (dc_X10_copies 8 rfl) rfl rfl ?_
      refine r_iadd (dc_X10_copies 9 rfl) ?_
      refine r_aload_n (dc_X10_copies 10 rfl) rfl rfl ?_
      obtain ⟨p2, e0, h⟩ := Option.bind_eq_some_iff.mp h
      refine r_getR (dc_X10_copies 11 rfl) fl_RX10_14 e0 ?_
      refine r_iload_n (dc_X10_copies 12 rfl) rfl rfl ?_
      refine r_iload_n (dc_X10_copies 13 rfl) rfl rfl ?_
      refine r_iadd (dc_X10_copies 14 rfl) ?_
      obtain ⟨x3, e0, h⟩ := Option.bind_eq_some_iff.mp h
      refine r_iald (dc_X10_copies 15 rfl) e0 ?_
      obtain ⟨s4, e0, h⟩ := Option.bind_eq_some_iff.mp h
      refine r_iast (dc_X10_copies 16 rfl) e0 ?_
      refine r_iinc (dc_X10_copies 17 rfl) rfl (kinc_1 _) (by decide) (lo' := [(3, .int (xL3 + (1 : Int32))), (0, .ref pL0), (1, .int xL1), (2, .int xL2)]) rfl ?_
      refine r_goto (dc_X10_copies 18 rfl) (tgt := 2) (by decide) ?_
      refine r_pick [1, 2, 3, 0] (lo' := [(0, .ref pL0), (1, .int xL1), (2, .int xL2), (3, .int (xL3 + (1 : Int32)))]) rfl ?_
      exact ih _ _ h
theorem t_X10_copies {G : Gx} {d : Nat} (hl : G.1.stackTraces = false) (hd : 0 ≤ d) {σ : Sto} {a0 : Nat} {xa1 : Int32} {xa2 : Int32} {r : Sto} (h : F_X10_copies σ a0 xa1 xa2 = some r) : Mi G d m_X10_copies 10 a0 [.int xa1, .int xa2] σ (.inl none) r := by
  rw [F_X10_copies] at h
  obtain ⟨hg, h⟩ := chk_some h
  refine ⟨J.toMt (lo := [(0, .ref a0), (1, .int xa1), (2, .int xa2)]) pn_RX10 rfl hl (Nat.le_of_ble_eq_true rfl) rfl ?_, hg⟩
  refine r_iconst (dc_X10_copies 0 rfl) kiconst_0 ?_
  refine r_istore_n (dc_X10_copies 1 rfl) rfl (by decide) (lo' := [(3, .int (0 : Int32)), (0, .ref a0), (1, .int xa1), (2, .int xa2)]) rfl ?_
  refine r_pick [1, 2, 3, 0] (lo' := [(0, .ref a0), (1, .int xa1), (2, .int xa2), (3, .int (0 : Int32))]) rfl ?_
  refine l_X10_copies_L2 hl hd (hk30 := ?_) fu _ _ h
  · intro s5 h
    cases h
    exact r_vreturn (dc_X10_copies 19 rfl) rfl
theorem t_X10_onPaper {G : Gx} {d : Nat} (hl : G.1.stackTraces = false) (hd : 1 ≤ d) {σ : Sto} {a0 : Nat} {r : Sto} (h : F_X10_onPaper σ a0 = some r) : Mi G d m_X10_onPaper 10 a0 [] σ (.inl none) r := by
  rw [F_X10_onPaper] at h
  obtain ⟨hg, h⟩ := chk_some h
  refine ⟨J.toMt (lo := [(0, .ref a0)]) pn_RX10 rfl hl (Nat.le_of_ble_eq_true rfl) rfl ?_, hg⟩
  refine r_aload_n (dc_X10_onPaper 0 rfl) rfl rfl ?_
  refine r_iconst (dc_X10_onPaper 1 rfl) kiconst_0 ?_
  refine r_ldc (dc_X10_onPaper 2 rfl) ck_RX10_82 ?_
  obtain ⟨s1, e0, h⟩ := Option.bind_eq_some_iff.mp h
  refine r_callV (dc_X10_onPaper 3 rfl) mv_X10_copies ml_RX10_86 (As := [.int (0 : Int32), .int (49425 : Int32)]) (t_X10_copies (d := d - 1) hl (by omega) e0) (by omega) rfl (Nat.le_of_ble_eq_true rfl) ?_
  refine r_aload_n (dc_X10_onPaper 4 rfl) rfl rfl ?_
  refine r_ldc (dc_X10_onPaper 5 rfl) ck_RX10_82 ?_
  obtain ⟨s2, e0, h⟩ := Option.bind_eq_some_iff.mp h
  refine r_put (dc_X10_onPaper 6 rfl) pl_RX10_59 rfl e0 ?_
  cases h
  exact r_vreturn (dc_X10_onPaper 7 rfl) rfl
theorem t_X10_isSite {G : Gx} {d : Nat} (hl : G.1.stackTraces = false) (hd : 1 ≤ d) {σ : Sto} {a0 : Nat} {xa1 : Int32} {r : Int32} (h : F_X10_isSite σ a0 xa1 = some r) : Mi G d m_X10_isSite 10 a0 [.int xa1] σ (.inl (some (.int r))) σ := by
  rw [F_X10_isSite] at h
  obtain ⟨hg, h⟩ := chk_some h
  refine ⟨J.toMt (lo := [(0, .ref a0), (1, .int xa1)]) pn_RX10 rfl hl (Nat.le_of_ble_eq_true rfl) rfl ?_, hg⟩
  refine r_iload_n (dc_X10_isSite 0 rfl) rfl rfl ?_
  refine r_i2l (dc_X10_isSite 1 rfl) ?_
  refine r_lconst (dc_X10_isSite 2 rfl) klconst_0 ?_
  refine r_aload_n (dc_X10_isSite 3 rfl) rfl rfl ?_
  obtain ⟨p1, e0, h⟩ := Option.bind_eq_some_iff.mp h
  refine r_getR (dc_X10_isSite 4 rfl) fl_RX10_14 e0 ?_
  refine r_iconst (dc_X10_isSite 5 rfl) kiconst_0 ?_
  obtain ⟨x2, e0, h⟩ := Option.bind_eq_some_iff.mp h
  refine r_iald (dc_X10_isSite 6 rfl) e0 ?_
  refine r_iconst (dc_X10_isSite 7 rfl) kiconst_1 ?_
  refine r_isub (dc_X10_isSite 8 rfl) ?_
  refine r_i2l (dc_X10_isSite 9 rfl) ?_
  obtain ⟨x3, e0, h⟩ := Option.bind_eq_some_iff.mp h
  refine r_callS (dc_X10_isSite 10 rfl) ms_X10_isIn ml_RX10_89 (As := [.long xa1.toInt64, .long (0 : Int64), .long (x2 - (1 : Int32)).toInt64]) (t_X10_isIn (d := d - 1) hl (by omega) e0) (by omega) rfl (Nat.le_of_ble_eq_true rfl) ?_
  split at h
  · rename_i c0
    cases h
    exact r_zreturn (dc_X10_isSite 11 rfl) rfl c0
  · cases h
theorem t_X10_areTwo {G : Gx} {d : Nat} (hl : G.1.stackTraces = false) (hd : 2 ≤ d) {σ : Sto} {a0 : Nat} {xa1 : Int32} {xa2 : Int32} {r : Int32} (h : F_X10_areTwo σ a0 xa1 xa2 = some r) : Mi G d m_X10_areTwo 10 a0 [.int xa1, .int xa2] σ (.inl (some (.int r))) σ := by
  rw [F_X10_areTwo] at h
  obtain ⟨hg, h⟩ := chk_some h
  refine ⟨J.toMt (lo := [(0, .ref a0), (1, .int xa1), (2, .int xa2)]) pn_RX10 rfl hl (Nat.le_of_ble_eq_true rfl) rfl ?_, hg⟩
  refine r_aload_n (dc_X10_areTwo 0 rfl) rfl rfl ?_
  refine r_iload_n (dc_X10_areTwo 1 rfl) rfl rfl ?_
  obtain ⟨x1, e0, h⟩ := Option.bind_eq_some_iff.mp h
  refine r_callV (dc_X10_areTwo 2 rfl) mv_X10_isSite ml_RX10_93 (As := [.int xa1]) (t_X10_isSite (d := d - 1) hl (by omega) e0) (by omega) rfl (Nat.le_of_ble_eq_true rfl) ?_
  refine r_if_eq (dc_X10_areTwo 3 rfl) (tgt := 25) (by decide) (fun c0 => ?_) (fun c0 => ?_)
  · rw [if_pos c0] at h
    refine r_iconst (dc_X10_areTwo 13 rfl) kiconst_0 ?_
    cases h
    exact r_zreturn (dc_X10_areTwo 14 rfl) rfl (Or.inl rfl)
  · rw [if_neg c0] at h
    refine r_aload_n (dc_X10_areTwo 4 rfl) rfl rfl ?_
    refine r_iload_n (dc_X10_areTwo 5 rfl) rfl rfl ?_
    obtain ⟨x2, e0, h⟩ := Option.bind_eq_some_iff.mp h
    refine r_callV (dc_X10_areTwo 6 rfl) mv_X10_isSite ml_RX10_93 (As := [.int xa2]) (t_X10_isSite (d := d - 1) hl (by omega) e0) (by omega) rfl (Nat.le_of_ble_eq_true rfl) ?_
    refine r_if_eq (dc_X10_areTwo 7 rfl) (tgt := 25) (by decide) (fun c0 => ?_) (fun c0 => ?_)
    · rw [if_pos c0] at h
      refine r_iconst (dc_X10_areTwo 13 rfl) kiconst_0 ?_
      cases h
      exact r_zreturn (dc_X10_areTwo 14 rfl) rfl (Or.inl rfl)
    · rw [if_neg c0] at h
      refine r_iload_n (dc_X10_areTwo 8 rfl) rfl rfl ?_
      refine r_iload_n (dc_X10_areTwo 9 rfl) rfl rfl ?_
      refine r_icmp_eq (dc_X10_areTwo 10 rfl) (tgt := 25) (by decide) (fun c0 => ?_) (fun c0 => ?_)
      · rw [if_pos c0] at h
        refine r_iconst (dc_X10_areTwo 13 rfl) kiconst_0 ?_
        cases h
        exact r_zreturn (dc_X10_areTwo 14 rfl) rfl (Or.inl rfl)
      · rw [if_neg c0] at h
        refine r_iconst (dc_X10_areTwo 11 rfl) kiconst_1 ?_
        refine r_goto (dc_X10_areTwo 12 rfl) (tgt := 26) (by decide) ?_
        cases h
        exact r_zreturn (dc_X10_areTwo 14 rfl) rfl (Or.inr rfl)
theorem t_X10_isEvent {G : Gx} {d : Nat} (hl : G.1.stackTraces = false) (hd : 1 ≤ d) {σ : Sto} {a0 : Nat} {xa1 : Int32} {r : Int32} (h : F_X10_isEvent σ a0 xa1 = some r) : Mi G d m_X10_isEvent 10 a0 [.int xa1] σ (.inl (some (.int r))) σ := by
  rw [F_X10_isEvent] at h
  obtain ⟨hg, h⟩ := chk_some h
  refine ⟨J.toMt (lo := [(0, .ref a0), (1, .int xa1)]) pn_RX10 rfl hl (Nat.le_of_ble_eq_true rfl) rfl ?_, hg⟩
  refine r_iload_n (dc_X10_isEvent 0 rfl) rfl rfl ?_
  refine r_i2l (dc_X10_isEvent 1 rfl) ?_
  refine r_lconst (dc_X10_isEvent 2 rfl) klconst_0 ?_
  refine r_aload_n (dc_X10_isEvent 3 rfl) rfl rfl ?_
  obtain ⟨p1, e0, h⟩ := Option.bind_eq_some_iff.mp h
  refine r_getR (dc_X10_isEvent 4 rfl) fl_RX10_14 e0 ?_
  refine r_iconst (dc_X10_isEvent 5 rfl) kiconst_2 ?_
  obtain ⟨x2, e0, h⟩ := Option.bind_eq_some_iff.mp h
  refine r_iald (dc_X10_isEvent 6 rfl) e0 ?_
  refine r_iconst (dc_X10_isEvent 7 rfl) kiconst_1 ?_
  refine r_isub (dc_X10_isEvent 8 rfl) ?_
  refine r_i2l (dc_X10_isEvent 9 rfl) ?_
  obtain ⟨x3, e0, h⟩ := Option.bind_eq_some_iff.mp h
  refine r_callS (dc_X10_isEvent 10 rfl) ms_X10_isIn ml_RX10_89 (As := [.long xa1.toInt64, .long (0 : Int64), .long (x2 - (1 : Int32)).toInt64]) (t_X10_isIn (d := d - 1) hl (by omega) e0) (by omega) rfl (Nat.le_of_ble_eq_true rfl) ?_
  split at h
  · rename_i c0
    cases h
    exact r_zreturn (dc_X10_isEvent 11 rfl) rfl c0
  · cases h
theorem t_X10_sites {G : Gx} {d : Nat} (hl : G.1.stackTraces = false) (hd : 1 ≤ d) {σ : Sto} {a0 : Nat} {xa1 : Int32} {r : (Int32 × Sto)} (h : F_X10_sites σ a0 xa1 = some r) : Mi G d m_X10_sites 10 a0 [.int xa1] σ (.inl (some (.int r.1))) r.2 := by
  rw [F_X10_sites] at h
  obtain ⟨hg, h⟩ := chk_some h
  refine ⟨J.toMt (lo := [(0, .ref a0), (1, .int xa1)]) pn_RX10 rfl hl (Nat.le_of_ble_eq_true rfl) rfl ?_, hg⟩
  refine r_aload_n (dc_X10_sites 0 rfl) rfl rfl ?_
  refine r_iconst (dc_X10_sites 1 rfl) kiconst_0 ?_
  obtain ⟨s1, e0, h⟩ := Option.bind_eq_some_iff.mp h
  refine r_put (dc_X10_sites 2 rfl) pl_RX10_1 rfl e0 ?_
  refine r_iload_n (dc_X10_sites 3 rfl) rfl rfl ?_
  refine r_i2l (dc_X10_sites 4 rfl) ?_
  refine r_ldc2 (dc_X10_sites 5 rfl) ck_RX10_97 ?_
  refine r_ldc2 (dc_X10_sites 6 rfl) ck_RX10_99 ?_
  obtain ⟨x2, e0, h⟩ := Option.bind_eq_some_iff.mp h
  refine r_callS (dc_X10_sites 7 rfl) ms_X10_isIn ml_RX10_89 (As := [.long xa1.toInt64, .long (2 : Int64), .long (5 : Int64)]) (t_X10_isIn (d := d - 1) hl (by omega) e0) (by omega) rfl (Nat.le_of_ble_eq_true rfl) ?_
  refine r_if_ne (dc_X10_sites 8 rfl) (tgt := 25) (by decide) (fun c0 => ?_) (fun c0 => ?_)
  · rw [if_neg c0] at h
    refine r_aload_n (dc_X10_sites 13 rfl) rfl rfl ?_
    refine r_iload_n (dc_X10_sites 14 rfl) rfl rfl ?_
    obtain ⟨s3, e0, h⟩ := Option.bind_eq_some_iff.mp h
    refine r_callV (dc_X10_sites 15 rfl) mv_X10_begins ml_RX10_55 (As := [.int xa1]) (t_X10_begins (d := d - 1) hl (by omega) e0) (by omega) rfl (Nat.le_of_ble_eq_true rfl) ?_
    refine r_iload_n (dc_X10_sites 16 rfl) rfl rfl ?_
    cases h
    exact r_ireturn (dc_X10_sites 17 rfl) rfl
  · rw [if_pos c0] at h
    refine r_aload_n (dc_X10_sites 9 rfl) rfl rfl ?_
    refine r_iconst (dc_X10_sites 10 rfl) kiconst_1 ?_
    obtain ⟨x5, s4, e0, h⟩ := wb_some h
    refine r_callV (dc_X10_sites 11 rfl) mv_X10_fails ml_RX10_101 (As := [.int (1 : Int32)]) (t_X10_fails (d := d - 1) hl (by omega) e0) (by omega) rfl (Nat.le_of_ble_eq_true rfl) ?_
    cases h
    exact r_ireturn (dc_X10_sites 12 rfl) rfl
theorem t_X10_mode {G : Gx} {d : Nat} (hl : G.1.stackTraces = false) (hd : 1 ≤ d) {σ : Sto} {a0 : Nat} {xa1 : Int32} {r : (Int32 × Sto)} (h : F_X10_mode σ a0 xa1 = some r) : Mi G d m_X10_mode 10 a0 [.int xa1] σ (.inl (some (.int r.1))) r.2 := by
  rw [F_X10_mode] at h
  obtain ⟨hg, h⟩ := chk_some h
  refine ⟨J.toMt (lo := [(0, .ref a0), (1, .int xa1)]) pn_RX10 rfl hl (Nat.le_of_ble_eq_true rfl) rfl ?_, hg⟩
  refine r_aload_n (dc_X10_mode 0 rfl) rfl rfl ?_
  refine r_iconst (dc_X10_mode 1 rfl) kiconst_0 ?_
  obtain ⟨s1, e0, h⟩ := Option.bind_eq_some_iff.mp h
  refine r_put (dc_X10_mode 2 rfl) pl_RX10_1 rfl e0 ?_
  refine r_iload_n (dc_X10_mode 3 rfl) rfl rfl ?_
  refine r_i2l (dc_X10_mode 4 rfl) ?_
  refine r_lconst (dc_X10_mode 5 rfl) klconst_0 ?_
  refine r_ldc2 (dc_X10_mode 6 rfl) ck_RX10_97 ?_
  obtain ⟨x2, e0, h⟩ := Option.bind_eq_some_iff.mp h
  refine r_callS (dc_X10_mode 7 rfl) ms_X10_isIn ml_RX10_89 (As := [.long xa1.toInt64, .long (0 : Int64), .long (2 : Int64)]) (t_X10_isIn (d := d - 1) hl (by omega) e0) (by omega) rfl (Nat.le_of_ble_eq_true rfl) ?_
  refine r_if_ne (dc_X10_mode 8 rfl) (tgt := 23) (by decide) (fun c0 => ?_) (fun c0 => ?_)
  · rw [if_neg c0] at h
    refine r_aload_n (dc_X10_mode 13 rfl) rfl rfl ?_
    obtain ⟨p3, e0, h⟩ := Option.bind_eq_some_iff.mp h
    refine r_getR (dc_X10_mode 14 rfl) fl_RX10_14 e0 ?_
    refine r_iconst (dc_X10_mode 15 rfl) kiconst_1 ?_
    obtain ⟨x4, e0, h⟩ := Option.bind_eq_some_iff.mp h
    refine r_iald (dc_X10_mode 16 rfl) e0 ?_
    refine r_istore_n (dc_X10_mode 17 rfl) rfl (by decide) (lo' := [(2, .int x4), (0, .ref a0), (1, .int xa1)]) rfl ?_
    refine r_aload_n (dc_X10_mode 18 rfl) rfl rfl ?_
    obtain ⟨p5, e0, h⟩ := Option.bind_eq_some_iff.mp h
    refine r_getR (dc_X10_mode 19 rfl) fl_RX10_14 e0 ?_
    refine r_iconst (dc_X10_mode 20 rfl) kiconst_1 ?_
    refine r_iload_n (dc_X10_mode 21 rfl) rfl rfl ?_
    obtain ⟨s6, e0, h⟩ := Option.bind_eq_some_iff.mp h
    refine r_iast (dc_X10_mode 22 rfl) e0 ?_
    refine r_iload_n (dc_X10_mode 23 rfl) rfl rfl ?_
    cases h
    exact r_ireturn (dc_X10_mode 24 rfl) rfl
  · rw [if_pos c0] at h
    refine r_aload_n (dc_X10_mode 9 rfl) rfl rfl ?_
    refine r_iconst (dc_X10_mode 10 rfl) kiconst_1 ?_
    obtain ⟨x8, s7, e0, h⟩ := wb_some h
    refine r_callV (dc_X10_mode 11 rfl) mv_X10_fails ml_RX10_101 (As := [.int (1 : Int32)]) (t_X10_fails (d := d - 1) hl (by omega) e0) (by omega) rfl (Nat.le_of_ble_eq_true rfl) ?_
    cases h
    exact r_ireturn (dc_X10_mode 12 rfl) rfl
theorem t_X10_steps {G : Gx} {d : Nat} (hl : G.1.stackTraces = false) (hd : 0 ≤ d) {σ : Sto} {a0 : Nat} {r : Sto} (h : F_X10_steps σ a0 = some r) : Mi G d m_X10_steps 10 a0 [] σ (.inl none) r := by
  rw [F_X10_steps] at h
  obtain ⟨hg, h⟩ := chk_some h
  refine ⟨J.toMt (lo := [(0, .ref a0)]) pn_RX10 rfl hl (Nat.le_of_ble_eq_true rfl) rfl ?_, hg⟩
  refine r_aload_n (dc_X10_steps 0 rfl) rfl rfl ?_
  refine r_iconst (dc_X10_steps 1 rfl) kiconst_0 ?_
  obtain ⟨s1, e0, h⟩ := Option.bind_eq_some_iff.mp h
  refine r_put (dc_X10_steps 2 rfl) pl_RX10_59 rfl e0 ?_
  refine r_aload_n (dc_X10_steps 3 rfl) rfl rfl ?_
  obtain ⟨p2, e0, h⟩ := Option.bind_eq_some_iff.mp h
  refine r_getR (dc_X10_steps 4 rfl) fl_RX10_14 e0 ?_
  refine r_bipush (dc_X10_steps 5 rfl) kbipush_6 ?_
  refine r_dup2 (dc_X10_steps 6 rfl) rfl rfl ?_
  obtain ⟨x3, e0, h⟩ := Option.bind_eq_some_iff.mp h
  refine r_iald (dc_X10_steps 7 rfl) e0 ?_
  refine r_iconst (dc_X10_steps 8 rfl) kiconst_1 ?_
  refine r_iadd (dc_X10_steps 9 rfl) ?_
  obtain ⟨s4, e0, h⟩ := Option.bind_eq_some_iff.mp h
  refine r_iast (dc_X10_steps 10 rfl) e0 ?_
  cases h
  exact r_vreturn (dc_X10_steps 11 rfl) rfl
theorem t_X10_notes {G : Gx} {d : Nat} (hl : G.1.stackTraces = false) (hd : 0 ≤ d) {σ : Sto} {a0 : Nat} {xa1 : Int32} {xa2 : Int32} {xa3 : Int32} {r : (Int32 × Sto)} (h : F_X10_notes σ a0 xa1 xa2 xa3 = some r) : Mi G d m_X10_notes 10 a0 [.int xa1, .int xa2, .int xa3] σ (.inl (some (.int r.1))) r.2 := by
  rw [F_X10_notes] at h
  obtain ⟨hg, h⟩ := chk_some h
  refine ⟨J.toMt (lo := [(0, .ref a0), (1, .int xa1), (2, .int xa2), (3, .int xa3)]) pn_RX10 rfl hl (Nat.le_of_ble_eq_true rfl) rfl ?_, hg⟩
  refine r_iconst (dc_X10_notes 0 rfl) kiconst_4 ?_
  refine r_aload_n (dc_X10_notes 1 rfl) rfl rfl ?_
  obtain ⟨x1, e0, h⟩ := Option.bind_eq_some_iff.mp h
  refine r_getI (dc_X10_notes 2 rfl) fl_RX10_83 e0 ?_
  refine r_bipush (dc_X10_notes 3 rfl) kbipush_32 ?_
  refine r_irem (dc_X10_notes 4 rfl) (by decide) ?_
  refine r_imul (dc_X10_notes 5 rfl) ?_
  refine r_istore (dc_X10_notes 6 rfl) (by decide) (lo' := [(4, .int ((4 : Int32) * (x1 - x1 / (32 : Int32) * (32 : Int32)))), (0, .ref a0), (1, .int xa1), (2, .int xa2), (3, .int xa3)]) rfl ?_
  refine r_aload_n (dc_X10_notes 7 rfl) rfl rfl ?_
  obtain ⟨p2, e0, h⟩ := Option.bind_eq_some_iff.mp h
  refine r_getR (dc_X10_notes 8 rfl) fl_RX10_22 e0 ?_
  refine r_iload (dc_X10_notes 9 rfl) rfl ?_
  refine r_aload_n (dc_X10_notes 10 rfl) rfl rfl ?_
  obtain ⟨p3, e0, h⟩ := Option.bind_eq_some_iff.mp h
  refine r_getR (dc_X10_notes 11 rfl) fl_RX10_14 e0 ?_
  refine r_bipush (dc_X10_notes 12 rfl) kbipush_6 ?_
  obtain ⟨x4, e0, h⟩ := Option.bind_eq_some_iff.mp h
  refine r_iald (dc_X10_notes 13 rfl) e0 ?_
  obtain ⟨s5, e0, h⟩ := Option.bind_eq_some_iff.mp h
  refine r_iast (dc_X10_notes 14 rfl) e0 ?_
  refine r_aload_n (dc_X10_notes 15 rfl) rfl rfl ?_
  obtain ⟨p6, e0, h⟩ := Option.bind_eq_some_iff.mp h
  refine r_getR (dc_X10_notes 16 rfl) fl_RX10_22 e0 ?_
  refine r_iload (dc_X10_notes 17 rfl) rfl ?_
  refine r_iconst (dc_X10_notes 18 rfl) kiconst_1 ?_
  refine r_iadd (dc_X10_notes 19 rfl) ?_
  refine r_iload_n (dc_X10_notes 20 rfl) rfl rfl ?_
  obtain ⟨s7, e0, h⟩ := Option.bind_eq_some_iff.mp h
  refine r_iast (dc_X10_notes 21 rfl) e0 ?_
  refine r_aload_n (dc_X10_notes 22 rfl) rfl rfl ?_
  obtain ⟨p8, e0, h⟩ := Option.bind_eq_some_iff.mp h
  refine r_getR (dc_X10_notes 23 rfl) fl_RX10_22 e0 ?_
  refine r_iload (dc_X10_notes 24 rfl) rfl ?_
  refine r_iconst (dc_X10_notes 25 rfl) kiconst_2 ?_
  refine r_iadd (dc_X10_notes 26 rfl) ?_
  refine r_iload_n (dc_X10_notes 27 rfl) rfl rfl ?_
  obtain ⟨s9, e0, h⟩ := Option.bind_eq_some_iff.mp h
  refine r_iast (dc_X10_notes 28 rfl) e0 ?_
  refine r_aload_n (dc_X10_notes 29 rfl) rfl rfl ?_
  obtain ⟨p10, e0, h⟩ := Option.bind_eq_some_iff.mp h
  refine r_getR (dc_X10_notes 30 rfl) fl_RX10_22 e0 ?_
  refine r_iload (dc_X10_notes 31 rfl) rfl ?_
  refine r_iconst (dc_X10_notes 32 rfl) kiconst_3 ?_
  refine r_iadd (dc_X10_notes 33 rfl) ?_
  refine r_iload_n (dc_X10_notes 34 rfl) rfl rfl ?_
  obtain ⟨s11, e0, h⟩ := Option.bind_eq_some_iff.mp h
  refine r_iast (dc_X10_notes 35 rfl) e0 ?_
  refine r_aload_n (dc_X10_notes 36 rfl) rfl rfl ?_
  refine r_dup (dc_X10_notes 37 rfl) rfl ?_
  obtain ⟨x12, e0, h⟩ := Option.bind_eq_some_iff.mp h
  refine r_getI (dc_X10_notes 38 rfl) fl_RX10_83 e0 ?_
  refine r_iconst (dc_X10_notes 39 rfl) kiconst_1 ?_
  refine r_iadd (dc_X10_notes 40 rfl) ?_
  obtain ⟨s13, e0, h⟩ := Option.bind_eq_some_iff.mp h
  refine r_put (dc_X10_notes 41 rfl) pl_RX10_83 rfl e0 ?_
  refine r_iload_n (dc_X10_notes 42 rfl) rfl rfl ?_
  cases h
  exact r_ireturn (dc_X10_notes 43 rfl) rfl
theorem t_X10_trace {G : Gx} {d : Nat} (hl : G.1.stackTraces = false) (hd : 1 ≤ d) {σ : Sto} {a0 : Nat} {xa1 : Int32} {xa2 : Int32} {r : (Int32 × Sto)} (h : F_X10_trace σ a0 xa1 xa2 = some r) : Mi G d m_X10_trace 10 a0 [.int xa1, .int xa2] σ (.inl (some (.int r.1))) r.2 := by
  rw [F_X10_trace] at h
  obtain ⟨hg, h⟩ := chk_some h
  refine ⟨J.toMt (lo := [(0, .ref a0), (1, .int xa1), (2, .int xa2)]) pn_RX10 rfl hl (Nat.le_of_ble_eq_true rfl) rfl ?_, hg⟩
  refine r_aload_n (dc_X10_trace 0 rfl) rfl rfl ?_
  refine r_iconst (dc_X10_trace 1 rfl) kiconst_0 ?_
  obtain ⟨s1, e0, h⟩ := Option.bind_eq_some_iff.mp h
  refine r_put (dc_X10_trace 2 rfl) pl_RX10_1 rfl e0 ?_
  refine r_iload_n (dc_X10_trace 3 rfl) rfl rfl ?_
  refine r_i2l (dc_X10_trace 4 rfl) ?_
  refine r_lconst (dc_X10_trace 5 rfl) klconst_0 ?_
  refine r_ldc2 (dc_X10_trace 6 rfl) ck_RX10_104 ?_
  obtain ⟨x2, e0, h⟩ := Option.bind_eq_some_iff.mp h
  refine r_callS (dc_X10_trace 7 rfl) ms_X10_isIn ml_RX10_89 (As := [.long xa1.toInt64, .long (0 : Int64), .long (31 : Int64)]) (t_X10_isIn (d := d - 1) hl (by omega) e0) (by omega) rfl (Nat.le_of_ble_eq_true rfl) ?_
  refine r_if_eq (dc_X10_trace 8 rfl) (tgt := 25) (by decide) (fun c0 => ?_) (fun c0 => ?_)
  · rw [if_pos c0] at h
    refine r_aload_n (dc_X10_trace 13 rfl) rfl rfl ?_
    refine r_iconst (dc_X10_trace 14 rfl) kiconst_1 ?_
    obtain ⟨x4, s3, e0, h⟩ := wb_some h
    refine r_callV (dc_X10_trace 15 rfl) mv_X10_fails ml_RX10_101 (As := [.int (1 : Int32)]) (t_X10_fails (d := d - 1) hl (by omega) e0) (by omega) rfl (Nat.le_of_ble_eq_true rfl) ?_
    cases h
    exact r_ireturn (dc_X10_trace 16 rfl) rfl
  · rw [if_neg c0] at h
    refine r_iload_n (dc_X10_trace 9 rfl) rfl rfl ?_
    refine r_aload_n (dc_X10_trace 10 rfl) rfl rfl ?_
    obtain ⟨x5, e0, h⟩ := Option.bind_eq_some_iff.mp h
    refine r_getI (dc_X10_trace 11 rfl) fl_RX10_83 e0 ?_
    refine r_icmp_lt (dc_X10_trace 12 rfl) (tgt := 31) (by decide) (fun c0 => ?_) (fun c0 => ?_)
    · rw [if_pos c0] at h
      refine r_iload_n (dc_X10_trace 17 rfl) rfl rfl ?_
      refine r_i2l (dc_X10_trace 18 rfl) ?_
      refine r_lconst (dc_X10_trace 19 rfl) klconst_0 ?_
      refine r_ldc2 (dc_X10_trace 20 rfl) ck_RX10_106 ?_
      obtain ⟨x6, e0, h⟩ := Option.bind_eq_some_iff.mp h
      refine r_callS (dc_X10_trace 21 rfl) ms_X10_isIn ml_RX10_89 (As := [.long xa2.toInt64, .long (0 : Int64), .long (3 : Int64)]) (t_X10_isIn (d := d - 1) hl (by omega) e0) (by omega) rfl (Nat.le_of_ble_eq_true rfl) ?_
      refine r_if_ne (dc_X10_trace 22 rfl) (tgt := 49) (by decide) (fun c0 => ?_) (fun c0 => ?_)
      · rw [if_neg c0] at h
        refine r_aload_n (dc_X10_trace 27 rfl) rfl rfl ?_
        obtain ⟨p7, e0, h⟩ := Option.bind_eq_some_iff.mp h
        refine r_getR (dc_X10_trace 28 rfl) fl_RX10_22 e0 ?_
        refine r_iconst (dc_X10_trace 29 rfl) kiconst_4 ?_
        refine r_aload_n (dc_X10_trace 30 rfl) rfl rfl ?_
        obtain ⟨x8, e0, h⟩ := Option.bind_eq_some_iff.mp h
        refine r_getI (dc_X10_trace 31 rfl) fl_RX10_83 e0 ?_
        refine r_iconst (dc_X10_trace 32 rfl) kiconst_1 ?_
        refine r_isub (dc_X10_trace 33 rfl) ?_
        refine r_iload_n (dc_X10_trace 34 rfl) rfl rfl ?_
        refine r_isub (dc_X10_trace 35 rfl) ?_
        refine r_bipush (dc_X10_trace 36 rfl) kbipush_32 ?_
        refine r_irem (dc_X10_trace 37 rfl) (by decide) ?_
        refine r_imul (dc_X10_trace 38 rfl) ?_
        refine r_iload_n (dc_X10_trace 39 rfl) rfl rfl ?_
        refine r_iadd (dc_X10_trace 40 rfl) ?_
        obtain ⟨x9, e0, h⟩ := Option.bind_eq_some_iff.mp h
        refine r_iald (dc_X10_trace 41 rfl) e0 ?_
        cases h
        exact r_ireturn (dc_X10_trace 42 rfl) rfl
      · rw [if_pos c0] at h
        refine r_aload_n (dc_X10_trace 23 rfl) rfl rfl ?_
        refine r_iconst (dc_X10_trace 24 rfl) kiconst_2 ?_
        obtain ⟨x11, s10, e0, h⟩ := wb_some h
        refine r_callV (dc_X10_trace 25 rfl) mv_X10_fails ml_RX10_101 (As := [.int (2 : Int32)]) (t_X10_fails (d := d - 1) hl (by omega) e0) (by omega) rfl (Nat.le_of_ble_eq_true rfl) ?_
        cases h
        exact r_ireturn (dc_X10_trace 26 rfl) rfl
    · rw [if_neg c0] at h
      refine r_aload_n (dc_X10_trace 13 rfl) rfl rfl ?_
      refine r_iconst (dc_X10_trace 14 rfl) kiconst_1 ?_
      obtain ⟨x13, s12, e0, h⟩ := wb_some h
      refine r_callV (dc_X10_trace 15 rfl) mv_X10_fails ml_RX10_101 (As := [.int (1 : Int32)]) (t_X10_fails (d := d - 1) hl (by omega) e0) (by omega) rfl (Nat.le_of_ble_eq_true rfl) ?_
      cases h
      exact r_ireturn (dc_X10_trace 16 rfl) rfl
theorem t_X10_siteOf {G : Gx} {d : Nat} (hl : G.1.stackTraces = false) (hd : 1 ≤ d) {σ : Sto} {a0 : Nat} {xa1 : Int32} {r : Int32} (h : F_X10_siteOf σ a0 xa1 = some r) : Mi G d m_X10_siteOf 10 a0 [.int xa1] σ (.inl (some (.int r))) σ := by
  rw [F_X10_siteOf] at h
  obtain ⟨hg, h⟩ := chk_some h
  refine ⟨J.toMt (lo := [(0, .ref a0), (1, .int xa1)]) pn_RX10 rfl hl (Nat.le_of_ble_eq_true rfl) rfl ?_, hg⟩
  refine r_aload_n (dc_X10_siteOf 0 rfl) rfl rfl ?_
  refine r_iload_n (dc_X10_siteOf 1 rfl) rfl rfl ?_
  obtain ⟨x1, e0, h⟩ := Option.bind_eq_some_iff.mp h
  refine r_callS (dc_X10_siteOf 2 rfl) ms_X10_eventOf ml_RX10_108 (As := [.int xa1]) (t_X10_eventOf (d := d - 1) hl (by omega) e0) (by omega) rfl (Nat.le_of_ble_eq_true rfl) ?_
  refine r_iconst (dc_X10_siteOf 3 rfl) kiconst_0 ?_
  refine r_iadd (dc_X10_siteOf 4 rfl) ?_
  obtain ⟨x2, e0, h⟩ := Option.bind_eq_some_iff.mp h
  refine r_callV (dc_X10_siteOf 5 rfl) mv_X10_of ml_RX10_62 (As := [.int (x1 + (0 : Int32))]) (t_X10_of (d := d - 1) hl (by omega) e0) (by omega) rfl (Nat.le_of_ble_eq_true rfl) ?_
  cases h
  exact r_ireturn (dc_X10_siteOf 6 rfl) rfl
theorem t_X10_timeOf {G : Gx} {d : Nat} (hl : G.1.stackTraces = false) (hd : 1 ≤ d) {σ : Sto} {a0 : Nat} {xa1 : Int32} {r : Int32} (h : F_X10_timeOf σ a0 xa1 = some r) : Mi G d m_X10_timeOf 10 a0 [.int xa1] σ (.inl (some (.int r))) σ := by
  rw [F_X10_timeOf] at h
  obtain ⟨hg, h⟩ := chk_some h
  refine ⟨J.toMt (lo := [(0, .ref a0), (1, .int xa1)]) pn_RX10 rfl hl (Nat.le_of_ble_eq_true rfl) rfl ?_, hg⟩
  refine r_aload_n (dc_X10_timeOf 0 rfl) rfl rfl ?_
  refine r_iload_n (dc_X10_timeOf 1 rfl) rfl rfl ?_
  obtain ⟨x1, e0, h⟩ := Option.bind_eq_some_iff.mp h
  refine r_callS (dc_X10_timeOf 2 rfl) ms_X10_eventOf ml_RX10_108 (As := [.int xa1]) (t_X10_eventOf (d := d - 1) hl (by omega) e0) (by omega) rfl (Nat.le_of_ble_eq_true rfl) ?_
  refine r_iconst (dc_X10_timeOf 3 rfl) kiconst_1 ?_
  refine r_iadd (dc_X10_timeOf 4 rfl) ?_
  obtain ⟨x2, e0, h⟩ := Option.bind_eq_some_iff.mp h
  refine r_callV (dc_X10_timeOf 5 rfl) mv_X10_of ml_RX10_62 (As := [.int (x1 + (1 : Int32))]) (t_X10_of (d := d - 1) hl (by omega) e0) (by omega) rfl (Nat.le_of_ble_eq_true rfl) ?_
  cases h
  exact r_ireturn (dc_X10_timeOf 6 rfl) rfl
theorem t_X10_isOut {G : Gx} {d : Nat} (hl : G.1.stackTraces = false) (hd : 1 ≤ d) {σ : Sto} {a0 : Nat} {xa1 : Int32} {r : Int32} (h : F_X10_isOut σ a0 xa1 = some r) : Mi G d m_X10_isOut 10 a0 [.int xa1] σ (.inl (some (.int r))) σ := by
  rw [F_X10_isOut] at h
  obtain ⟨hg, h⟩ := chk_some h
  refine ⟨J.toMt (lo := [(0, .ref a0), (1, .int xa1)]) pn_RX10 rfl hl (Nat.le_of_ble_eq_true rfl) rfl ?_, hg⟩
  refine r_aload_n (dc_X10_isOut 0 rfl) rfl rfl ?_
  refine r_iload_n (dc_X10_isOut 1 rfl) rfl rfl ?_
  obtain ⟨x1, e0, h⟩ := Option.bind_eq_some_iff.mp h
  refine r_callS (dc_X10_isOut 2 rfl) ms_X10_eventOf ml_RX10_108 (As := [.int xa1]) (t_X10_eventOf (d := d - 1) hl (by omega) e0) (by omega) rfl (Nat.le_of_ble_eq_true rfl) ?_
  refine r_iconst (dc_X10_isOut 3 rfl) kiconst_2 ?_
  refine r_iadd (dc_X10_isOut 4 rfl) ?_
  obtain ⟨x2, e0, h⟩ := Option.bind_eq_some_iff.mp h
  refine r_callV (dc_X10_isOut 5 rfl) mv_X10_of ml_RX10_62 (As := [.int (x1 + (2 : Int32))]) (t_X10_of (d := d - 1) hl (by omega) e0) (by omega) rfl (Nat.le_of_ble_eq_true rfl) ?_
  refine r_iconst (dc_X10_isOut 6 rfl) kiconst_1 ?_
  refine r_icmp_ne (dc_X10_isOut 7 rfl) (tgt := 18) (by decide) (fun c0 => ?_) (fun c0 => ?_)
  · rw [if_neg c0] at h
    refine r_iconst (dc_X10_isOut 10 rfl) kiconst_0 ?_
    cases h
    exact r_zreturn (dc_X10_isOut 11 rfl) rfl (Or.inl rfl)
  · rw [if_pos c0] at h
    refine r_iconst (dc_X10_isOut 8 rfl) kiconst_1 ?_
    refine r_goto (dc_X10_isOut 9 rfl) (tgt := 19) (by decide) ?_
    cases h
    exact r_zreturn (dc_X10_isOut 11 rfl) rfl (Or.inr rfl)
theorem t_X10_markOf {G : Gx} {d : Nat} (hl : G.1.stackTraces = false) (hd : 1 ≤ d) {σ : Sto} {a0 : Nat} {xa1 : Int32} {r : Int32} (h : F_X10_markOf σ a0 xa1 = some r) : Mi G d m_X10_markOf 10 a0 [.int xa1] σ (.inl (some (.int r))) σ := by
  rw [F_X10_markOf] at h
  obtain ⟨hg, h⟩ := chk_some h
  refine ⟨J.toMt (lo := [(0, .ref a0), (1, .int xa1)]) pn_RX10 rfl hl (Nat.le_of_ble_eq_true rfl) rfl ?_, hg⟩
  refine r_aload_n (dc_X10_markOf 0 rfl) rfl rfl ?_
  refine r_iload_n (dc_X10_markOf 1 rfl) rfl rfl ?_
  obtain ⟨x1, e0, h⟩ := Option.bind_eq_some_iff.mp h
  refine r_callS (dc_X10_markOf 2 rfl) ms_X10_eventOf ml_RX10_108 (As := [.int xa1]) (t_X10_eventOf (d := d - 1) hl (by omega) e0) (by omega) rfl (Nat.le_of_ble_eq_true rfl) ?_
  refine r_iconst (dc_X10_markOf 3 rfl) kiconst_3 ?_
  refine r_iadd (dc_X10_markOf 4 rfl) ?_
  obtain ⟨x2, e0, h⟩ := Option.bind_eq_some_iff.mp h
  refine r_callV (dc_X10_markOf 5 rfl) mv_X10_of ml_RX10_62 (As := [.int (x1 + (3 : Int32))]) (t_X10_of (d := d - 1) hl (by omega) e0) (by omega) rfl (Nat.le_of_ble_eq_true rfl) ?_
  cases h
  exact r_ireturn (dc_X10_markOf 6 rfl) rfl
theorem t_X10_cellOf {G : Gx} {d : Nat} (hl : G.1.stackTraces = false) (hd : 1 ≤ d) {σ : Sto} {xa0 : Int32} {xa1 : Int32} {xa2 : Int32} {r : Int32} (h : F_X10_cellOf xa0 xa1 xa2 = some r) : Mt G d m_X10_cellOf [.int xa0, .int xa1, .int xa2] σ (.inl (some (.int r))) σ := by
  rw [F_X10_cellOf] at h
  refine J.toMt (lo := [(0, .int xa0), (1, .int xa1), (2, .int xa2)]) pn_RX10 rfl hl (Nat.le_of_ble_eq_true rfl) rfl ?_
  refine r_iload_n (dc_X10_cellOf 0 rfl) rfl rfl ?_
  obtain ⟨x1, e0, h⟩ := Option.bind_eq_some_iff.mp h
  refine r_callS (dc_X10_cellOf 1 rfl) ms_X10_stateOf ml_RX10_111 (As := [.int xa0]) (t_X10_stateOf (d := d - 1) hl (by omega) e0) (by omega) rfl (Nat.le_of_ble_eq_true rfl) ?_
  refine r_iconst (dc_X10_cellOf 2 rfl) kiconst_5 ?_
  refine r_iload_n (dc_X10_cellOf 3 rfl) rfl rfl ?_
  refine r_imul (dc_X10_cellOf 4 rfl) ?_
  refine r_iadd (dc_X10_cellOf 5 rfl) ?_
  refine r_iload_n (dc_X10_cellOf 6 rfl) rfl rfl ?_
  refine r_iadd (dc_X10_cellOf 7 rfl) ?_
  cases h
  exact r_ireturn (dc_X10_cellOf 8 rfl) rfl
theorem t_X10_isKnown {G : Gx} {d : Nat} (hl : G.1.stackTraces = false) (hd : 2 ≤ d) {σ : Sto} {a0 : Nat} {xa1 : Int32} {xa2 : Int32} {xa3 : Int32} {r : Int32} (h : F_X10_isKnown σ a0 xa1 xa2 xa3 = some r) : Mi G d m_X10_isKnown 10 a0 [.int xa1, .int xa2, .int xa3] σ (.inl (some (.int r))) σ := by
  rw [F_X10_isKnown] at h
  obtain ⟨hg, h⟩ := chk_some h
  refine ⟨J.toMt (lo := [(0, .ref a0), (1, .int xa1), (2, .int xa2), (3, .int xa3)]) pn_RX10 rfl hl (Nat.le_of_ble_eq_true rfl) rfl ?_, hg⟩
  refine r_aload_n (dc_X10_isKnown 0 rfl) rfl rfl ?_
  refine r_iload_n (dc_X10_isKnown 1 rfl) rfl rfl ?_
  refine r_iload_n (dc_X10_isKnown 2 rfl) rfl rfl ?_
  refine r_aload_n (dc_X10_isKnown 3 rfl) rfl rfl ?_
  refine r_iload_n (dc_X10_isKnown 4 rfl) rfl rfl ?_
  obtain ⟨x1, e0, h⟩ := Option.bind_eq_some_iff.mp h
  refine r_callV (dc_X10_isKnown 5 rfl) mv_X10_siteOf ml_RX10_114 (As := [.int xa3]) (t_X10_siteOf (d := d - 1) hl (by omega) e0) (by omega) rfl (Nat.le_of_ble_eq_true rfl) ?_
  obtain ⟨x2, e0, h⟩ := Option.bind_eq_some_iff.mp h
  refine r_callS (dc_X10_isKnown 6 rfl) ms_X10_cellOf ml_RX10_117 (As := [.int xa1, .int xa2, .int x1]) (t_X10_cellOf (d := d - 1) hl (by omega) e0) (by omega) rfl (Nat.le_of_ble_eq_true rfl) ?_
  obtain ⟨x3, e0, h⟩ := Option.bind_eq_some_iff.mp h
  refine r_callV (dc_X10_isKnown 7 rfl) mv_X10_of ml_RX10_62 (As := [.int x2]) (t_X10_of (d := d - 1) hl (by omega) e0) (by omega) rfl (Nat.le_of_ble_eq_true rfl) ?_
  refine r_aload_n (dc_X10_isKnown 8 rfl) rfl rfl ?_
  refine r_iload_n (dc_X10_isKnown 9 rfl) rfl rfl ?_
  obtain ⟨x4, e0, h⟩ := Option.bind_eq_some_iff.mp h
  refine r_callV (dc_X10_isKnown 10 rfl) mv_X10_timeOf ml_RX10_121 (As := [.int xa3]) (t_X10_timeOf (d := d - 1) hl (by omega) e0) (by omega) rfl (Nat.le_of_ble_eq_true rfl) ?_
  refine r_icmp_lt (dc_X10_isKnown 11 rfl) (tgt := 26) (by decide) (fun c0 => ?_) (fun c0 => ?_)
  · rw [if_pos c0] at h
    refine r_iconst (dc_X10_isKnown 14 rfl) kiconst_0 ?_
    cases h
    exact r_zreturn (dc_X10_isKnown 15 rfl) rfl (Or.inl rfl)
  · rw [if_neg c0] at h
    refine r_iconst (dc_X10_isKnown 12 rfl) kiconst_1 ?_
    refine r_goto (dc_X10_isKnown 13 rfl) (tgt := 27) (by decide) ?_
    cases h
    exact r_zreturn (dc_X10_isKnown 15 rfl) rfl (Or.inr rfl)
