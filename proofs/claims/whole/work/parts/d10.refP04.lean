theorem l_X10_joins_L55 {G : Gx} {d : Nat} (hl : G.1.stackTraces = false) (hd : 3 ≤ d) {pL0 : Nat} {xL1 : Int32} {xL2 : Int32} {xL3 : Int32} {xL4 : Int32} {r : Sto} {k86 : Sto → Option Sto}
    (hk86 : ∀ (sL : Sto), k86 sL = some r → J G d m_X10_joins 86 [(0, .ref pL0), (1, .int xL1), (2, .int xL2)] [] sL (.inl none) r)
  : ∀ (f : Nat) (xL5 : Int32) (sL : Sto), F_X10_joins_L55 pL0 xL3 xL4 f xL5 sL k86 = some r → J G d m_X10_joins 55 [(0, .ref pL0), (1, .int xL1), (2, .int xL2), (3, .int xL3), (4, .int xL4), (5, .int xL5)] [] sL (.inl none) r := by
  intro f
  induction f with
  | zero => intro xL5 sL h; rw [F_X10_joins_L55] at h; cases h
  | succ f ih =>
    intro xL5 sL h
    rw [F_X10_joins_L55] at h
    refine r_iload (dc_X10_joins 29 rfl) rfl ?_
    refine r_sipush (dc_X10_joins 30 rfl) ksipush_154 ?_
    refine r_icmp_ge (dc_X10_joins 31 rfl) (tgt := 86) (by decide) (fun c0 => ?_) (fun c0 => ?_)
    · rw [if_pos c0] at h
      refine r_pick [0, 1, 2] (lo' := [(0, .ref pL0), (1, .int xL1), (2, .int xL2)]) rfl ?_
      exact hk86 _ h
    · rw [if_neg c0] at h
      refine r_aload_n (dc_X10_joins 32 rfl) rfl rfl ?_
      refine r_iload_n (dc_X10_joins 33 rfl) rfl rfl ?_
      refine r_iload (dc_X10_joins 34 rfl) rfl ?_
      refine r_iadd (dc_X10_joins 35 rfl) ?_
      refine r_aload_n (dc_X10_joins 36 rfl) rfl rfl ?_
      refine r_iload (dc_X10_joins 37 rfl) rfl ?_
      refine r_iload (dc_X10_joins 38 rfl) rfl ?_
      refine r_iadd (dc_X10_joins 39 rfl) ?_
      obtain ⟨x7, e0, h⟩ := Option.bind_eq_some_iff.mp h
      refine r_callV (dc_X10_joins 40 rfl) mv_X10_of ml_RX10_62 (As := [.int (xL4 + xL5)]) (t_X10_of (d := d - 1) hl (by omega) e0) (by omega) rfl (Nat.le_of_ble_eq_true rfl) ?_
      obtain ⟨s8, e0, h⟩ := Option.bind_eq_some_iff.mp h
      refine r_callV (dc_X10_joins 41 rfl) mv_X10_set ml_RX10_66 (As := [.int (xL3 + xL5), .int x7]) (t_X10_set (d := d - 1) hl (by omega) e0) (by omega) rfl (Nat.le_of_ble_eq_true rfl) ?_
      refine r_iinc (dc_X10_joins 42 rfl) rfl (kinc_1 _) (by decide) (lo' := [(5, .int (xL5 + (1 : Int32))), (0, .ref pL0), (1, .int xL1), (2, .int xL2), (3, .int xL3), (4, .int xL4)]) rfl ?_
      refine r_goto (dc_X10_joins 43 rfl) (tgt := 55) (by decide) ?_
      refine r_pick [1, 2, 3, 4, 5, 0] (lo' := [(0, .ref pL0), (1, .int xL1), (2, .int xL2), (3, .int xL3), (4, .int xL4), (5, .int (xL5 + (1 : Int32)))]) rfl ?_
      exact ih _ _ h
theorem l_X10_joins_L89 {G : Gx} {d : Nat} (hl : G.1.stackTraces = false) (hd : 3 ≤ d) {pL0 : Nat} {xL1 : Int32} {xL2 : Int32} {r : Sto} {k127 : Sto → Option Sto}
    (hk127 : ∀ (sL : Sto), k127 sL = some r → J G d m_X10_joins 127 [(0, .ref pL0), (1, .int xL1)] [] sL (.inl none) r)
  : ∀ (f : Nat) (xL5 : Int32) (sL : Sto), F_X10_joins_L89 pL0 xL1 xL2 f xL5 sL k127 = some r → J G d m_X10_joins 89 [(0, .ref pL0), (1, .int xL1), (2, .int xL2), (5, .int xL5)] [] sL (.inl none) r := by
  intro f
  induction f with
  | zero => intro xL5 sL h; rw [F_X10_joins_L89] at h; cases h
  | succ f ih =>
    intro xL5 sL h
    rw [F_X10_joins_L89] at h
    refine r_iload (dc_X10_joins 46 rfl) rfl ?_
    refine r_aload_n (dc_X10_joins 47 rfl) rfl rfl ?_
    refine r_iconst (dc_X10_joins 48 rfl) kiconst_0 ?_
    obtain ⟨x10, e0, h⟩ := Option.bind_eq_some_iff.mp h
    refine r_callV (dc_X10_joins 49 rfl) mv_X10_of ml_RX10_62 (As := [.int (0 : Int32)]) (t_X10_of (d := d - 1) hl (by omega) e0) (by omega) rfl (Nat.le_of_ble_eq_true rfl) ?_
    refine r_icmp_ge (dc_X10_joins 50 rfl) (tgt := 127) (by decide) (fun c0 => ?_) (fun c0 => ?_)
    · rw [if_pos c0] at h
      refine r_pick [0, 1] (lo' := [(0, .ref pL0), (1, .int xL1)]) rfl ?_
      exact hk127 _ h
    · rw [if_neg c0] at h
      refine r_aload_n (dc_X10_joins 51 rfl) rfl rfl ?_
      refine r_iload_n (dc_X10_joins 52 rfl) rfl rfl ?_
      refine r_iload_n (dc_X10_joins 53 rfl) rfl rfl ?_
      refine r_iload (dc_X10_joins 54 rfl) rfl ?_
      obtain ⟨x11, e0, h⟩ := Option.bind_eq_some_iff.mp h
      refine r_callS (dc_X10_joins 55 rfl) ms_X10_cellOf ml_RX10_117 (As := [.int xL1, .int xL1, .int xL5]) (t_X10_cellOf (d := d - 1) hl (by omega) e0) (by omega) rfl (Nat.le_of_ble_eq_true rfl) ?_
      refine r_aload_n (dc_X10_joins 56 rfl) rfl rfl ?_
      refine r_iload_n (dc_X10_joins 57 rfl) rfl rfl ?_
      refine r_iload_n (dc_X10_joins 58 rfl) rfl rfl ?_
      refine r_iload (dc_X10_joins 59 rfl) rfl ?_
      obtain ⟨x12, e0, h⟩ := Option.bind_eq_some_iff.mp h
      refine r_callS (dc_X10_joins 60 rfl) ms_X10_cellOf ml_RX10_117 (As := [.int xL2, .int xL2, .int xL5]) (t_X10_cellOf (d := d - 1) hl (by omega) e0) (by omega) rfl (Nat.le_of_ble_eq_true rfl) ?_
      obtain ⟨x13, e0, h⟩ := Option.bind_eq_some_iff.mp h
      refine r_callV (dc_X10_joins 61 rfl) mv_X10_of ml_RX10_62 (As := [.int x12]) (t_X10_of (d := d - 1) hl (by omega) e0) (by omega) rfl (Nat.le_of_ble_eq_true rfl) ?_
      obtain ⟨s14, e0, h⟩ := Option.bind_eq_some_iff.mp h
      refine r_callV (dc_X10_joins 62 rfl) mv_X10_set ml_RX10_66 (As := [.int x11, .int x13]) (t_X10_set (d := d - 1) hl (by omega) e0) (by omega) rfl (Nat.le_of_ble_eq_true rfl) ?_
      refine r_iinc (dc_X10_joins 63 rfl) rfl (kinc_1 _) (by decide) (lo' := [(5, .int (xL5 + (1 : Int32))), (0, .ref pL0), (1, .int xL1), (2, .int xL2)]) rfl ?_
      refine r_goto (dc_X10_joins 64 rfl) (tgt := 89) (by decide) ?_
      refine r_pick [1, 2, 3, 0] (lo' := [(0, .ref pL0), (1, .int xL1), (2, .int xL2), (5, .int (xL5 + (1 : Int32)))]) rfl ?_
      exact ih _ _ h
theorem t_X10_joins {G : Gx} {d : Nat} (hl : G.1.stackTraces = false) (hd : 3 ≤ d) {σ : Sto} {a0 : Nat} {xa1 : Int32} {xa2 : Int32} {r : Sto} (h : F_X10_joins σ a0 xa1 xa2 = some r) : Mi G d m_X10_joins 10 a0 [.int xa1, .int xa2] σ (.inl none) r := by
  rw [F_X10_joins] at h
  obtain ⟨hg, h⟩ := chk_some h
  refine ⟨J.toMt (lo := [(0, .ref a0), (1, .int xa1), (2, .int xa2)]) pn_RX10 rfl hl (Nat.le_of_ble_eq_true rfl) rfl ?_, hg⟩
  refine r_iload_n (dc_X10_joins 0 rfl) rfl rfl ?_
  obtain ⟨x1, e0, h⟩ := Option.bind_eq_some_iff.mp h
  refine r_callS (dc_X10_joins 1 rfl) ms_X10_stateOf ml_RX10_111 (As := [.int xa1]) (t_X10_stateOf (d := d - 1) hl (by omega) e0) (by omega) rfl (Nat.le_of_ble_eq_true rfl) ?_
  refine r_istore_n (dc_X10_joins 2 rfl) rfl (by decide) (lo' := [(3, .int x1), (0, .ref a0), (1, .int xa1), (2, .int xa2)]) rfl ?_
  refine r_iload_n (dc_X10_joins 3 rfl) rfl rfl ?_
  obtain ⟨x2, e0, h⟩ := Option.bind_eq_some_iff.mp h
  refine r_callS (dc_X10_joins 4 rfl) ms_X10_stateOf ml_RX10_111 (As := [.int xa2]) (t_X10_stateOf (d := d - 1) hl (by omega) e0) (by omega) rfl (Nat.le_of_ble_eq_true rfl) ?_
  refine r_istore (dc_X10_joins 5 rfl) (by decide) (lo' := [(4, .int x2), (3, .int x1), (0, .ref a0), (1, .int xa1), (2, .int xa2)]) rfl ?_
  refine r_iconst (dc_X10_joins 6 rfl) kiconst_0 ?_
  refine r_istore (dc_X10_joins 7 rfl) (by decide) (lo' := [(5, .int (0 : Int32)), (4, .int x2), (3, .int x1), (0, .ref a0), (1, .int xa1), (2, .int xa2)]) rfl ?_
  refine r_pick [3, 4, 5, 2, 1, 0] (lo' := [(0, .ref a0), (1, .int xa1), (2, .int xa2), (3, .int x1), (4, .int x2), (5, .int (0 : Int32))]) rfl ?_
  refine l_X10_joins_L14 hl hd (hk52 := ?_) fu _ _ h
  · intro s6 h
    refine r_iconst (dc_X10_joins 27 rfl) kiconst_0 ?_
    refine r_istore (dc_X10_joins 28 rfl) (by decide) (lo' := [(5, .int (0 : Int32)), (0, .ref a0), (1, .int xa1), (2, .int xa2), (3, .int x1), (4, .int x2)]) rfl ?_
    refine r_pick [1, 2, 3, 4, 5, 0] (lo' := [(0, .ref a0), (1, .int xa1), (2, .int xa2), (3, .int x1), (4, .int x2), (5, .int (0 : Int32))]) rfl ?_
    refine l_X10_joins_L55 hl hd (hk86 := ?_) fu _ _ h
    · intro s9 h
      refine r_iconst (dc_X10_joins 44 rfl) kiconst_0 ?_
      refine r_istore (dc_X10_joins 45 rfl) (by decide) (lo' := [(5, .int (0 : Int32)), (0, .ref a0), (1, .int xa1), (2, .int xa2)]) rfl ?_
      refine r_pick [1, 2, 3, 0] (lo' := [(0, .ref a0), (1, .int xa1), (2, .int xa2), (5, .int (0 : Int32))]) rfl ?_
      refine l_X10_joins_L89 hl hd (hk127 := ?_) fu _ _ h
      · intro s15 h
        refine r_aload_n (dc_X10_joins 65 rfl) rfl rfl ?_
        refine r_iload_n (dc_X10_joins 66 rfl) rfl rfl ?_
        refine r_iload_n (dc_X10_joins 67 rfl) rfl rfl ?_
        refine r_iload_n (dc_X10_joins 68 rfl) rfl rfl ?_
        obtain ⟨x16, e0, h⟩ := Option.bind_eq_some_iff.mp h
        refine r_callS (dc_X10_joins 69 rfl) ms_X10_cellOf ml_RX10_117 (As := [.int xa1, .int xa1, .int xa1]) (t_X10_cellOf (d := d - 1) hl (by omega) e0) (by omega) rfl (Nat.le_of_ble_eq_true rfl) ?_
        refine r_aload_n (dc_X10_joins 70 rfl) rfl rfl ?_
        refine r_iload_n (dc_X10_joins 71 rfl) rfl rfl ?_
        obtain ⟨x17, e0, h⟩ := Option.bind_eq_some_iff.mp h
        refine r_callS (dc_X10_joins 72 rfl) ms_X10_clockOf ml_RX10_131 (As := [.int xa1]) (t_X10_clockOf (d := d - 1) hl (by omega) e0) (by omega) rfl (Nat.le_of_ble_eq_true rfl) ?_
        obtain ⟨x18, e0, h⟩ := Option.bind_eq_some_iff.mp h
        refine r_callV (dc_X10_joins 73 rfl) mv_X10_of ml_RX10_62 (As := [.int x17]) (t_X10_of (d := d - 1) hl (by omega) e0) (by omega) rfl (Nat.le_of_ble_eq_true rfl) ?_
        obtain ⟨s19, e0, h⟩ := Option.bind_eq_some_iff.mp h
        refine r_callV (dc_X10_joins 74 rfl) mv_X10_set ml_RX10_66 (As := [.int x16, .int x18]) (t_X10_set (d := d - 1) hl (by omega) e0) (by omega) rfl (Nat.le_of_ble_eq_true rfl) ?_
        cases h
        exact r_vreturn (dc_X10_joins 75 rfl) rfl
theorem t_X10_join {G : Gx} {d : Nat} (hl : G.1.stackTraces = false) (hd : 4 ≤ d) {σ : Sto} {a0 : Nat} {xa1 : Int32} {xa2 : Int32} {r : (Int32 × Sto)} (h : F_X10_join σ a0 xa1 xa2 = some r) : Mi G d m_X10_join 10 a0 [.int xa1, .int xa2] σ (.inl (some (.int r.1))) r.2 := by
  rw [F_X10_join] at h
  obtain ⟨hg, h⟩ := chk_some h
  refine ⟨J.toMt (lo := [(0, .ref a0), (1, .int xa1), (2, .int xa2)]) pn_RX10 rfl hl (Nat.le_of_ble_eq_true rfl) rfl ?_, hg⟩
  refine r_aload_n (dc_X10_join 0 rfl) rfl rfl ?_
  refine r_iconst (dc_X10_join 1 rfl) kiconst_0 ?_
  obtain ⟨s1, e0, h⟩ := Option.bind_eq_some_iff.mp h
  refine r_put (dc_X10_join 2 rfl) pl_RX10_1 rfl e0 ?_
  refine r_aload_n (dc_X10_join 3 rfl) rfl rfl ?_
  refine r_iload_n (dc_X10_join 4 rfl) rfl rfl ?_
  refine r_iload_n (dc_X10_join 5 rfl) rfl rfl ?_
  obtain ⟨x2, e0, h⟩ := Option.bind_eq_some_iff.mp h
  refine r_callV (dc_X10_join 6 rfl) mv_X10_areTwo ml_RX10_211 (As := [.int xa1, .int xa2]) (t_X10_areTwo (d := d - 1) hl (by omega) e0) (by omega) rfl (Nat.le_of_ble_eq_true rfl) ?_
  refine r_if_ne (dc_X10_join 7 rfl) (tgt := 20) (by decide) (fun c0 => ?_) (fun c0 => ?_)
  · rw [if_neg c0] at h
    refine r_aload_n (dc_X10_join 12 rfl) rfl rfl ?_
    obtain ⟨s3, e0, h⟩ := Option.bind_eq_some_iff.mp h
    refine r_callV (dc_X10_join 13 rfl) mv_X10_steps ml_RX10_141 (As := []) (t_X10_steps (d := d - 1) hl (by omega) e0) (by omega) rfl (Nat.le_of_ble_eq_true rfl) ?_
    refine r_aload_n (dc_X10_join 14 rfl) rfl rfl ?_
    refine r_iload_n (dc_X10_join 15 rfl) rfl rfl ?_
    refine r_iload_n (dc_X10_join 16 rfl) rfl rfl ?_
    obtain ⟨s4, e0, h⟩ := Option.bind_eq_some_iff.mp h
    refine r_callV (dc_X10_join 17 rfl) mv_X10_joins ml_RX10_245 (As := [.int xa1, .int xa2]) (t_X10_joins (d := d - 1) hl (by omega) e0) (by omega) rfl (Nat.le_of_ble_eq_true rfl) ?_
    refine r_aload_n (dc_X10_join 18 rfl) rfl rfl ?_
    refine r_bipush (dc_X10_join 19 rfl) kbipush_8 ?_
    refine r_iload_n (dc_X10_join 20 rfl) rfl rfl ?_
    refine r_aload_n (dc_X10_join 21 rfl) rfl rfl ?_
    refine r_iload_n (dc_X10_join 22 rfl) rfl rfl ?_
    obtain ⟨x5, e0, h⟩ := Option.bind_eq_some_iff.mp h
    refine r_callV (dc_X10_join 23 rfl) mv_X10_hasMany ml_RX10_239 (As := [.int xa1]) (t_X10_hasMany (d := d - 1) hl (by omega) e0) (by omega) rfl (Nat.le_of_ble_eq_true rfl) ?_
    obtain ⟨x7, s6, e0, h⟩ := wb_some h
    refine r_callV (dc_X10_join 24 rfl) mv_X10_notes ml_RX10_148 (As := [.int (8 : Int32), .int xa1, .int x5]) (t_X10_notes (d := d - 1) hl (by omega) e0) (by omega) rfl (Nat.le_of_ble_eq_true rfl) ?_
    cases h
    exact r_ireturn (dc_X10_join 25 rfl) rfl
  · rw [if_pos c0] at h
    refine r_aload_n (dc_X10_join 8 rfl) rfl rfl ?_
    refine r_iconst (dc_X10_join 9 rfl) kiconst_1 ?_
    obtain ⟨x9, s8, e0, h⟩ := wb_some h
    refine r_callV (dc_X10_join 10 rfl) mv_X10_fails ml_RX10_101 (As := [.int (1 : Int32)]) (t_X10_fails (d := d - 1) hl (by omega) e0) (by omega) rfl (Nat.le_of_ble_eq_true rfl) ?_
    cases h
    exact r_ireturn (dc_X10_join 11 rfl) rfl
theorem t_X10_draw {G : Gx} {d : Nat} (hl : G.1.stackTraces = false) (hd : 0 ≤ d) {σ : Sto} {a0 : Nat} {xa1 : Int32} {r : (Int32 × Sto)} (h : F_X10_draw σ a0 xa1 = some r) : Mi G d m_X10_draw 10 a0 [.int xa1] σ (.inl (some (.int r.1))) r.2 := by
  rw [F_X10_draw] at h
  obtain ⟨hg, h⟩ := chk_some h
  refine ⟨J.toMt (lo := [(0, .ref a0), (1, .int xa1)]) pn_RX10 rfl hl (Nat.le_of_ble_eq_true rfl) rfl ?_, hg⟩
  refine r_aload_n (dc_X10_draw 0 rfl) rfl rfl ?_
  refine r_ldc2 (dc_X10_draw 1 rfl) ck_RX10_248 ?_
  refine r_aload_n (dc_X10_draw 2 rfl) rfl rfl ?_
  obtain ⟨y1, e0, h⟩ := Option.bind_eq_some_iff.mp h
  refine r_getL (dc_X10_draw 3 rfl) fl_RX10_250 e0 ?_
  refine r_lmul (dc_X10_draw 4 rfl) ?_
  refine r_ldc2 (dc_X10_draw 5 rfl) ck_RX10_254 ?_
  refine r_ladd (dc_X10_draw 6 rfl) ?_
  refine r_ldc2 (dc_X10_draw 7 rfl) ck_RX10_256 ?_
  refine r_lrem (dc_X10_draw 8 rfl) (by decide) ?_
  obtain ⟨s2, e0, h⟩ := Option.bind_eq_some_iff.mp h
  refine r_put (dc_X10_draw 9 rfl) pl_RX10_250 rfl e0 ?_
  refine r_aload_n (dc_X10_draw 10 rfl) rfl rfl ?_
  obtain ⟨y3, e0, h⟩ := Option.bind_eq_some_iff.mp h
  refine r_getL (dc_X10_draw 11 rfl) fl_RX10_250 e0 ?_
  refine r_ldc2 (dc_X10_draw 12 rfl) ck_RX10_258 ?_
  refine r_ldiv (dc_X10_draw 13 rfl) (by decide) ?_
  refine r_iload_n (dc_X10_draw 14 rfl) rfl rfl ?_
  refine r_i2l (dc_X10_draw 15 rfl) ?_
  split at h
  · cases h
  rename_i c0
  refine r_lrem (dc_X10_draw 16 rfl) c0 ?_
  refine r_l2i (dc_X10_draw 17 rfl) ?_
  cases h
  exact r_ireturn (dc_X10_draw 18 rfl) rfl
theorem l_X10_kthOf_L5 {G : Gx} {d : Nat} (hl : G.1.stackTraces = false) (hd : 2 ≤ d) {sL : Sto} {pL0 : Nat} {xL1 : Int32} {r : Int32} {k44 : Option Int32}
    (hk44 : k44  = some r → J G d m_X10_kthOf 44 [] [] sL (.inl (some (.int r))) sL)
  : ∀ (f : Nat) (xL3 : Int32) (xL4 : Int32), F_X10_kthOf_L5 sL pL0 xL1 f xL3 xL4 k44 = some r → J G d m_X10_kthOf 5 [(0, .ref pL0), (1, .int xL1), (3, .int xL3), (4, .int xL4)] [] sL (.inl (some (.int r))) sL := by
  intro f
  induction f with
  | zero => intro xL3 xL4 h; rw [F_X10_kthOf_L5] at h; cases h
  | succ f ih =>
    intro xL3 xL4 h
    rw [F_X10_kthOf_L5] at h
    refine r_iload (dc_X10_kthOf 4 rfl) rfl ?_
    refine r_aload_n (dc_X10_kthOf 5 rfl) rfl rfl ?_
    refine r_iconst (dc_X10_kthOf 6 rfl) kiconst_2 ?_
    obtain ⟨x1, e0, h⟩ := Option.bind_eq_some_iff.mp h
    refine r_callV (dc_X10_kthOf 7 rfl) mv_X10_of ml_RX10_62 (As := [.int (2 : Int32)]) (t_X10_of (d := d - 1) hl (by omega) e0) (by omega) rfl (Nat.le_of_ble_eq_true rfl) ?_
    refine r_icmp_ge (dc_X10_kthOf 8 rfl) (tgt := 44) (by decide) (fun c0 => ?_) (fun c0 => ?_)
    · rw [if_pos c0] at h
      refine r_pick [] (lo' := []) rfl ?_
      exact hk44  h
    · rw [if_neg c0] at h
      refine r_aload_n (dc_X10_kthOf 9 rfl) rfl rfl ?_
      refine r_iload_n (dc_X10_kthOf 10 rfl) rfl rfl ?_
      refine r_iload (dc_X10_kthOf 11 rfl) rfl ?_
      obtain ⟨x2, e0, h⟩ := Option.bind_eq_some_iff.mp h
      refine r_callV (dc_X10_kthOf 12 rfl) mv_X10_isOf ml_RX10_70 (As := [.int xL1, .int xL4]) (t_X10_isOf (d := d - 1) hl (by omega) e0) (by omega) rfl (Nat.le_of_ble_eq_true rfl) ?_
      refine r_if_ne (dc_X10_kthOf 13 rfl) (tgt := 28) (by decide) (fun c0 => ?_) (fun c0 => ?_)
      · rw [if_neg c0] at h
        refine r_iload_n (dc_X10_kthOf 15 rfl) rfl rfl ?_
        refine r_if_ne (dc_X10_kthOf 16 rfl) (tgt := 35) (by decide) (fun c0 => ?_) (fun c0 => ?_)
        · rw [if_neg c0] at h
          refine r_iinc (dc_X10_kthOf 19 rfl) rfl (kinc_m1 _) (by decide) (lo' := [(3, .int (xL3 + (-1 : Int32))), (0, .ref pL0), (1, .int xL1), (4, .int xL4)]) rfl ?_
          refine r_iinc (dc_X10_kthOf 20 rfl) rfl (kinc_1 _) (by decide) (lo' := [(4, .int (xL4 + (1 : Int32))), (3, .int (xL3 + (-1 : Int32))), (0, .ref pL0), (1, .int xL1)]) rfl ?_
          refine r_goto (dc_X10_kthOf 21 rfl) (tgt := 5) (by decide) ?_
          refine r_pick [2, 3, 1, 0] (lo' := [(0, .ref pL0), (1, .int xL1), (3, .int (xL3 + (-1 : Int32))), (4, .int (xL4 + (1 : Int32)))]) rfl ?_
          exact ih _ _ h
        · rw [if_pos c0] at h
          refine r_iload (dc_X10_kthOf 17 rfl) rfl ?_
          cases h
          exact r_ireturn (dc_X10_kthOf 18 rfl) rfl
      · rw [if_pos c0] at h
        refine r_goto (dc_X10_kthOf 14 rfl) (tgt := 38) (by decide) ?_
        refine r_iinc (dc_X10_kthOf 20 rfl) rfl (kinc_1 _) (by decide) (lo' := [(4, .int (xL4 + (1 : Int32))), (0, .ref pL0), (1, .int xL1), (3, .int xL3)]) rfl ?_
        refine r_goto (dc_X10_kthOf 21 rfl) (tgt := 5) (by decide) ?_
        refine r_pick [1, 2, 3, 0] (lo' := [(0, .ref pL0), (1, .int xL1), (3, .int xL3), (4, .int (xL4 + (1 : Int32)))]) rfl ?_
        exact ih _ _ h
theorem t_X10_kthOf {G : Gx} {d : Nat} (hl : G.1.stackTraces = false) (hd : 2 ≤ d) {σ : Sto} {a0 : Nat} {xa1 : Int32} {xa2 : Int32} {r : Int32} (h : F_X10_kthOf σ a0 xa1 xa2 = some r) : Mi G d m_X10_kthOf 10 a0 [.int xa1, .int xa2] σ (.inl (some (.int r))) σ := by
  rw [F_X10_kthOf] at h
  obtain ⟨hg, h⟩ := chk_some h
  refine ⟨J.toMt (lo := [(0, .ref a0), (1, .int xa1), (2, .int xa2)]) pn_RX10 rfl hl (Nat.le_of_ble_eq_true rfl) rfl ?_, hg⟩
  refine r_iload_n (dc_X10_kthOf 0 rfl) rfl rfl ?_
  refine r_istore_n (dc_X10_kthOf 1 rfl) rfl (by decide) (lo' := [(3, .int xa2), (0, .ref a0), (1, .int xa1), (2, .int xa2)]) rfl ?_
  refine r_iconst (dc_X10_kthOf 2 rfl) kiconst_0 ?_
  refine r_istore (dc_X10_kthOf 3 rfl) (by decide) (lo' := [(4, .int (0 : Int32)), (3, .int xa2), (0, .ref a0), (1, .int xa1), (2, .int xa2)]) rfl ?_
  refine r_pick [2, 3, 1, 0] (lo' := [(0, .ref a0), (1, .int xa1), (3, .int xa2), (4, .int (0 : Int32))]) rfl ?_
  refine l_X10_kthOf_L5 hl hd (hk44 := ?_) fu _ _ h
  · intro h
    refine r_iconst (dc_X10_kthOf 22 rfl) kiconst_m1 ?_
    cases h
    exact r_ireturn (dc_X10_kthOf 23 rfl) rfl
theorem t_X10_takesByDraw {G : Gx} {d : Nat} (hl : G.1.stackTraces = false) (hd : 5 ≤ d) {σ : Sto} {a0 : Nat} {xa1 : Int32} {r : Sto} (h : F_X10_takesByDraw σ a0 xa1 = some r) : Mi G d m_X10_takesByDraw 10 a0 [.int xa1] σ (.inl none) r := by
  rw [F_X10_takesByDraw] at h
  obtain ⟨hg, h⟩ := chk_some h
  refine ⟨J.toMt (lo := [(0, .ref a0), (1, .int xa1)]) pn_RX10 rfl hl (Nat.le_of_ble_eq_true rfl) rfl ?_, hg⟩
  refine r_aload_n (dc_X10_takesByDraw 0 rfl) rfl rfl ?_
  refine r_iload_n (dc_X10_takesByDraw 1 rfl) rfl rfl ?_
  obtain ⟨x1, e0, h⟩ := Option.bind_eq_some_iff.mp h
  refine r_callS (dc_X10_takesByDraw 2 rfl) ms_X10_stateOf ml_RX10_111 (As := [.int xa1]) (t_X10_stateOf (d := d - 1) hl (by omega) e0) (by omega) rfl (Nat.le_of_ble_eq_true rfl) ?_
  refine r_bipush (dc_X10_takesByDraw 3 rfl) kbipush_29 ?_
  refine r_iadd (dc_X10_takesByDraw 4 rfl) ?_
  obtain ⟨x2, e0, h⟩ := Option.bind_eq_some_iff.mp h
  refine r_callV (dc_X10_takesByDraw 5 rfl) mv_X10_bitsOf ml_RX10_233 (As := [.int (x1 + (29 : Int32))]) (t_X10_bitsOf (d := d - 1) hl (by omega) e0) (by omega) rfl (Nat.le_of_ble_eq_true rfl) ?_
  refine r_istore_n (dc_X10_takesByDraw 6 rfl) rfl (by decide) (lo' := [(2, .int x2), (0, .ref a0), (1, .int xa1)]) rfl ?_
  refine r_iload_n (dc_X10_takesByDraw 7 rfl) rfl rfl ?_
  refine r_if_ne (dc_X10_takesByDraw 8 rfl) (tgt := 17) (by decide) (fun c0 => ?_) (fun c0 => ?_)
  · rw [if_neg c0] at h
    refine r_aload_n (dc_X10_takesByDraw 10 rfl) rfl rfl ?_
    refine r_iload_n (dc_X10_takesByDraw 11 rfl) rfl rfl ?_
    obtain ⟨x3, e0, h⟩ := Option.bind_eq_some_iff.mp h
    refine r_callS (dc_X10_takesByDraw 12 rfl) ms_X10_stateOf ml_RX10_111 (As := [.int xa1]) (t_X10_stateOf (d := d - 1) hl (by omega) e0) (by omega) rfl (Nat.le_of_ble_eq_true rfl) ?_
    refine r_bipush (dc_X10_takesByDraw 13 rfl) kbipush_29 ?_
    refine r_iadd (dc_X10_takesByDraw 14 rfl) ?_
    refine r_aload_n (dc_X10_takesByDraw 15 rfl) rfl rfl ?_
    refine r_iload_n (dc_X10_takesByDraw 16 rfl) rfl rfl ?_
    obtain ⟨x5, s4, e0, h⟩ := wb_some h
    refine r_callV (dc_X10_takesByDraw 17 rfl) mv_X10_draw ml_RX10_260 (As := [.int x2]) (t_X10_draw (d := d - 1) hl (by omega) e0) (by omega) rfl (Nat.le_of_ble_eq_true rfl) ?_
    obtain ⟨x6, e0, h⟩ := Option.bind_eq_some_iff.mp h
    refine r_callV (dc_X10_takesByDraw 18 rfl) mv_X10_kthOf ml_RX10_263 (As := [.int (x3 + (29 : Int32)), .int x5]) (t_X10_kthOf (d := d - 1) hl (by omega) e0) (by omega) rfl (Nat.le_of_ble_eq_true rfl) ?_
    refine r_istore_n (dc_X10_takesByDraw 19 rfl) rfl (by decide) (lo' := [(3, .int x6), (2, .int x2), (0, .ref a0), (1, .int xa1)]) rfl ?_
    refine r_aload_n (dc_X10_takesByDraw 20 rfl) rfl rfl ?_
    obtain ⟨p7, e0, h⟩ := Option.bind_eq_some_iff.mp h
    refine r_getR (dc_X10_takesByDraw 21 rfl) fl_RX10_14 e0 ?_
    refine r_iconst (dc_X10_takesByDraw 22 rfl) kiconst_2 ?_
    obtain ⟨x8, e0, h⟩ := Option.bind_eq_some_iff.mp h
    refine r_iald (dc_X10_takesByDraw 23 rfl) e0 ?_
    refine r_bipush (dc_X10_takesByDraw 24 rfl) kbipush_120 ?_
    refine r_icmp_ge (dc_X10_takesByDraw 25 rfl) (tgt := 52) (by decide) (fun c0 => ?_) (fun c0 => ?_)
    · rw [if_pos c0] at h
      cases h
      exact r_vreturn (dc_X10_takesByDraw 31 rfl) rfl
    · rw [if_neg c0] at h
      refine r_aload_n (dc_X10_takesByDraw 26 rfl) rfl rfl ?_
      refine r_iload_n (dc_X10_takesByDraw 27 rfl) rfl rfl ?_
      refine r_iload_n (dc_X10_takesByDraw 28 rfl) rfl rfl ?_
      obtain ⟨x10, s9, e0, h⟩ := wb_some h
      refine r_callV (dc_X10_takesByDraw 29 rfl) mv_X10_takes ml_RX10_159 (As := [.int xa1, .int x6]) (t_X10_takes (d := d - 1) hl (by omega) e0) (by omega) rfl (Nat.le_of_ble_eq_true rfl) ?_
      refine r_pop (dc_X10_takesByDraw 30 rfl) rfl ?_
      cases h
      exact r_vreturn (dc_X10_takesByDraw 31 rfl) rfl
  · rw [if_pos c0] at h
    cases h
    exact r_vreturn (dc_X10_takesByDraw 9 rfl) rfl
theorem t_X10_letterByDraw {G : Gx} {d : Nat} (hl : G.1.stackTraces = false) (hd : 7 ≤ d) {σ : Sto} {a0 : Nat} {xa1 : Int32} {xa2 : Int32} {r : Sto} (h : F_X10_letterByDraw σ a0 xa1 xa2 = some r) : Mi G d m_X10_letterByDraw 10 a0 [.int xa1, .int xa2] σ (.inl none) r := by
  rw [F_X10_letterByDraw] at h
  obtain ⟨hg, h⟩ := chk_some h
  refine ⟨J.toMt (lo := [(0, .ref a0), (1, .int xa1), (2, .int xa2)]) pn_RX10 rfl hl (Nat.le_of_ble_eq_true rfl) rfl ?_, hg⟩
  refine r_aload_n (dc_X10_letterByDraw 0 rfl) rfl rfl ?_
  refine r_aload_n (dc_X10_letterByDraw 1 rfl) rfl rfl ?_
  obtain ⟨p1, e0, h⟩ := Option.bind_eq_some_iff.mp h
  refine r_getR (dc_X10_letterByDraw 2 rfl) fl_RX10_14 e0 ?_
  refine r_iconst (dc_X10_letterByDraw 3 rfl) kiconst_0 ?_
  obtain ⟨x2, e0, h⟩ := Option.bind_eq_some_iff.mp h
  refine r_iald (dc_X10_letterByDraw 4 rfl) e0 ?_
  obtain ⟨x4, s3, e0, h⟩ := wb_some h
  refine r_callV (dc_X10_letterByDraw 5 rfl) mv_X10_draw ml_RX10_260 (As := [.int x2]) (t_X10_draw (d := d - 1) hl (by omega) e0) (by omega) rfl (Nat.le_of_ble_eq_true rfl) ?_
  refine r_istore_n (dc_X10_letterByDraw 6 rfl) rfl (by decide) (lo' := [(3, .int x4), (0, .ref a0), (1, .int xa1), (2, .int xa2)]) rfl ?_
  refine r_iload_n (dc_X10_letterByDraw 7 rfl) rfl rfl ?_
  refine r_iload_n (dc_X10_letterByDraw 8 rfl) rfl rfl ?_
  refine jn_elim h (Q := fun (j : Int32 → Option Sto) => ∀ (x6 : Int32), j x6 = some r → J G d m_X10_letterByDraw 27 [(0, .ref a0), (1, .int xa1), (2, .int xa2), (3, .int x6)] [] s3 (.inl none) r) ?_ (fun j5 hj5 h => ?_)
  · intro x6 h
    refine r_iload_n (dc_X10_letterByDraw 19 rfl) rfl rfl ?_
    refine r_bipush (dc_X10_letterByDraw 20 rfl) kbipush_6 ?_
    refine r_icmp_ge (dc_X10_letterByDraw 21 rfl) (tgt := 50) (by decide) (fun c0 => ?_) (fun c0 => ?_)
    · rw [if_pos c0] at h
      refine r_aload_n (dc_X10_letterByDraw 33 rfl) rfl rfl ?_
      refine r_iload_n (dc_X10_letterByDraw 34 rfl) rfl rfl ?_
      refine r_iload_n (dc_X10_letterByDraw 35 rfl) rfl rfl ?_
      obtain ⟨x7, e0, h⟩ := Option.bind_eq_some_iff.mp h
      refine r_callV (dc_X10_letterByDraw 36 rfl) mv_X10_waits ml_RX10_188 (As := [.int xa2, .int x6]) (t_X10_waits (d := d - 1) hl (by omega) e0) (by omega) rfl (Nat.le_of_ble_eq_true rfl) ?_
      refine r_if_ne (dc_X10_letterByDraw 37 rfl) (tgt := 60) (by decide) (fun c0 => ?_) (fun c0 => ?_)
      · rw [if_neg c0] at h
        refine r_aload_n (dc_X10_letterByDraw 39 rfl) rfl rfl ?_
        refine r_aload_n (dc_X10_letterByDraw 40 rfl) rfl rfl ?_
        refine r_iload_n (dc_X10_letterByDraw 41 rfl) rfl rfl ?_
        refine r_iload_n (dc_X10_letterByDraw 42 rfl) rfl rfl ?_
        obtain ⟨x8, e0, h⟩ := Option.bind_eq_some_iff.mp h
        refine r_callV (dc_X10_letterByDraw 43 rfl) mv_X10_waits ml_RX10_188 (As := [.int xa2, .int x6]) (t_X10_waits (d := d - 1) hl (by omega) e0) (by omega) rfl (Nat.le_of_ble_eq_true rfl) ?_
        obtain ⟨x10, s9, e0, h⟩ := wb_some h
        refine r_callV (dc_X10_letterByDraw 44 rfl) mv_X10_draw ml_RX10_260 (As := [.int x8]) (t_X10_draw (d := d - 1) hl (by omega) e0) (by omega) rfl (Nat.le_of_ble_eq_true rfl) ?_
        refine r_istore (dc_X10_letterByDraw 45 rfl) (by decide) (lo' := [(4, .int x10), (0, .ref a0), (1, .int xa1), (2, .int xa2), (3, .int x6)]) rfl ?_
        refine r_aload_n (dc_X10_letterByDraw 46 rfl) rfl rfl ?_
        refine r_iload_n (dc_X10_letterByDraw 47 rfl) rfl rfl ?_
        refine r_iload_n (dc_X10_letterByDraw 48 rfl) rfl rfl ?_
        obtain ⟨x11, e0, h⟩ := Option.bind_eq_some_iff.mp h
        refine r_callV (dc_X10_letterByDraw 49 rfl) mv_X10_isCut ml_RX10_197 (As := [.int xa2, .int x6]) (t_X10_isCut (d := d - 1) hl (by omega) e0) (by omega) rfl (Nat.le_of_ble_eq_true rfl) ?_
        refine r_if_ne (dc_X10_letterByDraw 50 rfl) (tgt := 90) (by decide) (fun c0 => ?_) (fun c0 => ?_)
        · rw [if_neg c0] at h
          cases h
          exact r_vreturn (dc_X10_letterByDraw 57 rfl) rfl
        · rw [if_pos c0] at h
          refine r_aload_n (dc_X10_letterByDraw 51 rfl) rfl rfl ?_
          refine r_iload_n (dc_X10_letterByDraw 52 rfl) rfl rfl ?_
          refine r_iload_n (dc_X10_letterByDraw 53 rfl) rfl rfl ?_
          refine r_iload (dc_X10_letterByDraw 54 rfl) rfl ?_
          obtain ⟨x13, s12, e0, h⟩ := wb_some h
          refine r_callV (dc_X10_letterByDraw 55 rfl) mv_X10_comesNow ml_RX10_223 (As := [.int xa2, .int x6, .int x10]) (t_X10_comesNow (d := d - 1) hl (by omega) e0) (by omega) rfl (Nat.le_of_ble_eq_true rfl) ?_
          refine r_pop (dc_X10_letterByDraw 56 rfl) rfl ?_
          cases h
          exact r_vreturn (dc_X10_letterByDraw 57 rfl) rfl
      · rw [if_pos c0] at h
        cases h
        exact r_vreturn (dc_X10_letterByDraw 38 rfl) rfl
    · rw [if_neg c0] at h
      refine r_aload_n (dc_X10_letterByDraw 22 rfl) rfl rfl ?_
      refine r_iload_n (dc_X10_letterByDraw 23 rfl) rfl rfl ?_
      refine r_iload_n (dc_X10_letterByDraw 24 rfl) rfl rfl ?_
      obtain ⟨x15, s14, e0, h⟩ := wb_some h
      refine r_callV (dc_X10_letterByDraw 25 rfl) mv_X10_canWrite ml_RX10_214 (As := [.int xa2, .int x6]) (t_X10_canWrite (d := d - 1) hl (by omega) e0) (by omega) rfl (Nat.le_of_ble_eq_true rfl) ?_
      refine r_if_eq (dc_X10_letterByDraw 26 rfl) (tgt := 49) (by decide) (fun c0 => ?_) (fun c0 => ?_)
      · rw [if_pos c0] at h
        cases h
        exact r_vreturn (dc_X10_letterByDraw 32 rfl) rfl
      · rw [if_neg c0] at h
        refine r_aload_n (dc_X10_letterByDraw 27 rfl) rfl rfl ?_
        refine r_iload_n (dc_X10_letterByDraw 28 rfl) rfl rfl ?_
        refine r_iload_n (dc_X10_letterByDraw 29 rfl) rfl rfl ?_
        obtain ⟨x17, s16, e0, h⟩ := wb_some h
        refine r_callV (dc_X10_letterByDraw 30 rfl) mv_X10_writes ml_RX10_217 (As := [.int xa2, .int x6]) (t_X10_writes (d := d - 1) hl (by omega) e0) (by omega) rfl (Nat.le_of_ble_eq_true rfl) ?_
        refine r_pop (dc_X10_letterByDraw 31 rfl) rfl ?_
        cases h
        exact r_vreturn (dc_X10_letterByDraw 32 rfl) rfl
  refine r_icmp_ne (dc_X10_letterByDraw 9 rfl) (tgt := 27) (by decide) (fun c0 => ?_) (fun c0 => ?_)
  · rw [if_neg c0] at h
    refine r_pick [1, 2, 3, 0] (lo' := [(0, .ref a0), (1, .int xa1), (2, .int xa2), (3, .int x4)]) rfl ?_
    exact hj5 _ h
  · rw [if_pos c0] at h
    refine r_iload_n (dc_X10_letterByDraw 10 rfl) rfl rfl ?_
    refine r_iconst (dc_X10_letterByDraw 11 rfl) kiconst_1 ?_
    refine r_iadd (dc_X10_letterByDraw 12 rfl) ?_
    refine r_aload_n (dc_X10_letterByDraw 13 rfl) rfl rfl ?_
    obtain ⟨p18, e0, h⟩ := Option.bind_eq_some_iff.mp h
    refine r_getR (dc_X10_letterByDraw 14 rfl) fl_RX10_14 e0 ?_
    refine r_iconst (dc_X10_letterByDraw 15 rfl) kiconst_0 ?_
    obtain ⟨x19, e0, h⟩ := Option.bind_eq_some_iff.mp h
    refine r_iald (dc_X10_letterByDraw 16 rfl) e0 ?_
    split at h
    · cases h
    rename_i c0
    refine r_irem (dc_X10_letterByDraw 17 rfl) c0 ?_
    refine r_istore_n (dc_X10_letterByDraw 18 rfl) rfl (by decide) (lo' := [(3, .int ((xa2 + (1 : Int32)) - (xa2 + (1 : Int32)) / x19 * x19)), (0, .ref a0), (1, .int xa1), (2, .int xa2)]) rfl ?_
    refine r_pick [1, 2, 3, 0] (lo' := [(0, .ref a0), (1, .int xa1), (2, .int xa2), (3, .int ((xa2 + (1 : Int32)) - (xa2 + (1 : Int32)) / x19 * x19))]) rfl ?_
    exact hj5 _ h
theorem l_X10_chance_L48 {G : Gx} {d : Nat} (hl : G.1.stackTraces = false) (hd : 8 ≤ d) {pL0 : Nat} {xL2 : Int32} {xL3 : Int32} {r : (Int32 × Sto)} {k140 : Sto → Option (Int32 × Sto)}
    (hk140 : ∀ (sL : Sto), k140 sL = some r → J G d m_X10_chance 140 [(0, .ref pL0), (3, .int xL3)] [] sL (.inl (some (.int r.1))) r.2)
  : ∀ (f : Nat) (xL4 : Int32) (sL : Sto), F_X10_chance_L48 pL0 xL2 f xL4 sL k140 = some r → J G d m_X10_chance 48 [(0, .ref pL0), (2, .int xL2), (3, .int xL3), (4, .int xL4)] [] sL (.inl (some (.int r.1))) r.2 := by
  intro f
  induction f with
  | zero => intro xL4 sL h; rw [F_X10_chance_L48] at h; cases h
  | succ f ih =>
    intro xL4 sL h
    rw [F_X10_chance_L48] at h
    refine r_iload (dc_X10_chance 29 rfl) rfl ?_
    refine r_iload_n (dc_X10_chance 30 rfl) rfl rfl ?_
    refine r_icmp_ge (dc_X10_chance 31 rfl) (tgt := 140) (by decide) (fun c0 => ?_) (fun c0 => ?_)
    · rw [if_pos c0] at h
      refine r_pick [0, 2] (lo' := [(0, .ref pL0), (3, .int xL3)]) rfl ?_
      exact hk140 _ h
    · rw [if_neg c0] at h
      refine r_aload_n (dc_X10_chance 32 rfl) rfl rfl ?_
      refine r_bipush (dc_X10_chance 33 rfl) kbipush_8 ?_
      obtain ⟨x10, s9, e0, h⟩ := wb_some h
      refine r_callV (dc_X10_chance 34 rfl) mv_X10_draw ml_RX10_260 (As := [.int (8 : Int32)]) (t_X10_draw (d := d - 1) hl (by omega) e0) (by omega) rfl (Nat.le_of_ble_eq_true rfl) ?_
      refine r_istore (dc_X10_chance 35 rfl) (by decide) (lo' := [(5, .int x10), (0, .ref pL0), (2, .int xL2), (3, .int xL3), (4, .int xL4)]) rfl ?_
      refine r_aload_n (dc_X10_chance 36 rfl) rfl rfl ?_
      refine r_aload_n (dc_X10_chance 37 rfl) rfl rfl ?_
      obtain ⟨p11, e0, h⟩ := Option.bind_eq_some_iff.mp h
      refine r_getR (dc_X10_chance 38 rfl) fl_RX10_14 e0 ?_
      refine r_iconst (dc_X10_chance 39 rfl) kiconst_0 ?_
      obtain ⟨x12, e0, h⟩ := Option.bind_eq_some_iff.mp h
      refine r_iald (dc_X10_chance 40 rfl) e0 ?_
      obtain ⟨x14, s13, e0, h⟩ := wb_some h
      refine r_callV (dc_X10_chance 41 rfl) mv_X10_draw ml_RX10_260 (As := [.int x12]) (t_X10_draw (d := d - 1) hl (by omega) e0) (by omega) rfl (Nat.le_of_ble_eq_true rfl) ?_
      refine r_istore (dc_X10_chance 42 rfl) (by decide) (lo' := [(6, .int x14), (5, .int x10), (0, .ref pL0), (2, .int xL2), (3, .int xL3), (4, .int xL4)]) rfl ?_
      refine r_iload (dc_X10_chance 43 rfl) rfl ?_
      refine r_iconst (dc_X10_chance 44 rfl) kiconst_2 ?_
      refine r_icmp_ge (dc_X10_chance 45 rfl) (tgt := 111) (by decide) (fun c0 => ?_) (fun c0 => ?_)
      · rw [if_pos c0] at h
        refine r_iload (dc_X10_chance 62 rfl) rfl ?_
        refine r_iconst (dc_X10_chance 63 rfl) kiconst_2 ?_
        refine r_icmp_ne (dc_X10_chance 64 rfl) (tgt := 126) (by decide) (fun c0 => ?_) (fun c0 => ?_)
        · rw [if_neg c0] at h
          refine r_aload_n (dc_X10_chance 69 rfl) rfl rfl ?_
          refine r_iload (dc_X10_chance 70 rfl) rfl ?_
          refine r_iload (dc_X10_chance 71 rfl) rfl ?_
          obtain ⟨s15, e0, h⟩ := Option.bind_eq_some_iff.mp h
          refine r_callV (dc_X10_chance 72 rfl) mv_X10_letterByDraw ml_RX10_271 (As := [.int x10, .int x14]) (t_X10_letterByDraw (d := d - 1) hl (by omega) e0) (by omega) rfl (Nat.le_of_ble_eq_true rfl) ?_
          refine r_iinc (dc_X10_chance 73 rfl) rfl (kinc_1 _) (by decide) (lo' := [(4, .int (xL4 + (1 : Int32))), (6, .int x14), (5, .int x10), (0, .ref pL0), (2, .int xL2), (3, .int xL3)]) rfl ?_
          refine r_goto (dc_X10_chance 74 rfl) (tgt := 48) (by decide) ?_
          refine r_pick [3, 4, 5, 0] (lo' := [(0, .ref pL0), (2, .int xL2), (3, .int xL3), (4, .int (xL4 + (1 : Int32)))]) rfl ?_
          exact ih _ _ h
        · rw [if_pos c0] at h
          refine r_aload_n (dc_X10_chance 65 rfl) rfl rfl ?_
          refine r_iload (dc_X10_chance 66 rfl) rfl ?_
          obtain ⟨s16, e0, h⟩ := Option.bind_eq_some_iff.mp h
          refine r_callV (dc_X10_chance 67 rfl) mv_X10_takesByDraw ml_RX10_268 (As := [.int x14]) (t_X10_takesByDraw (d := d - 1) hl (by omega) e0) (by omega) rfl (Nat.le_of_ble_eq_true rfl) ?_
          refine r_goto (dc_X10_chance 68 rfl) (tgt := 134) (by decide) ?_
          refine r_iinc (dc_X10_chance 73 rfl) rfl (kinc_1 _) (by decide) (lo' := [(4, .int (xL4 + (1 : Int32))), (6, .int x14), (5, .int x10), (0, .ref pL0), (2, .int xL2), (3, .int xL3)]) rfl ?_
          refine r_goto (dc_X10_chance 74 rfl) (tgt := 48) (by decide) ?_
          refine r_pick [3, 4, 5, 0] (lo' := [(0, .ref pL0), (2, .int xL2), (3, .int xL3), (4, .int (xL4 + (1 : Int32)))]) rfl ?_
          exact ih _ _ h
      · rw [if_neg c0] at h
        refine r_aload_n (dc_X10_chance 46 rfl) rfl rfl ?_
        refine r_bipush (dc_X10_chance 47 rfl) kbipush_100 ?_
        obtain ⟨x18, s17, e0, h⟩ := wb_some h
        refine r_callV (dc_X10_chance 48 rfl) mv_X10_draw ml_RX10_260 (As := [.int (100 : Int32)]) (t_X10_draw (d := d - 1) hl (by omega) e0) (by omega) rfl (Nat.le_of_ble_eq_true rfl) ?_
        refine r_istore (dc_X10_chance 49 rfl) (by decide) (lo' := [(7, .int x18), (6, .int x14), (5, .int x10), (0, .ref pL0), (2, .int xL2), (3, .int xL3), (4, .int xL4)]) rfl ?_
        refine r_aload_n (dc_X10_chance 50 rfl) rfl rfl ?_
        obtain ⟨p19, e0, h⟩ := Option.bind_eq_some_iff.mp h
        refine r_getR (dc_X10_chance 51 rfl) fl_RX10_14 e0 ?_
        refine r_iconst (dc_X10_chance 52 rfl) kiconst_2 ?_
        obtain ⟨x20, e0, h⟩ := Option.bind_eq_some_iff.mp h
        refine r_iald (dc_X10_chance 53 rfl) e0 ?_
        refine r_bipush (dc_X10_chance 54 rfl) kbipush_120 ?_
        refine r_icmp_ge (dc_X10_chance 55 rfl) (tgt := 108) (by decide) (fun c0 => ?_) (fun c0 => ?_)
        · rw [if_pos c0] at h
          refine r_goto (dc_X10_chance 61 rfl) (tgt := 134) (by decide) ?_
          refine r_iinc (dc_X10_chance 73 rfl) rfl (kinc_1 _) (by decide) (lo' := [(4, .int (xL4 + (1 : Int32))), (7, .int x18), (6, .int x14), (5, .int x10), (0, .ref pL0), (2, .int xL2), (3, .int xL3)]) rfl ?_
          refine r_goto (dc_X10_chance 74 rfl) (tgt := 48) (by decide) ?_
          refine r_pick [4, 5, 6, 0] (lo' := [(0, .ref pL0), (2, .int xL2), (3, .int xL3), (4, .int (xL4 + (1 : Int32)))]) rfl ?_
          exact ih _ _ h
        · rw [if_neg c0] at h
          refine r_aload_n (dc_X10_chance 56 rfl) rfl rfl ?_
          refine r_iload (dc_X10_chance 57 rfl) rfl ?_
          refine r_iload (dc_X10_chance 58 rfl) rfl ?_
          obtain ⟨x22, s21, e0, h⟩ := wb_some h
          refine r_callV (dc_X10_chance 59 rfl) mv_X10_adds ml_RX10_153 (As := [.int x14, .int x18]) (t_X10_adds (d := d - 1) hl (by omega) e0) (by omega) rfl (Nat.le_of_ble_eq_true rfl) ?_
          refine r_pop (dc_X10_chance 60 rfl) rfl ?_
          refine r_goto (dc_X10_chance 61 rfl) (tgt := 134) (by decide) ?_
          refine r_iinc (dc_X10_chance 73 rfl) rfl (kinc_1 _) (by decide) (lo' := [(4, .int (xL4 + (1 : Int32))), (7, .int x18), (6, .int x14), (5, .int x10), (0, .ref pL0), (2, .int xL2), (3, .int xL3)]) rfl ?_
          refine r_goto (dc_X10_chance 74 rfl) (tgt := 48) (by decide) ?_
          refine r_pick [4, 5, 6, 0] (lo' := [(0, .ref pL0), (2, .int xL2), (3, .int xL3), (4, .int (xL4 + (1 : Int32)))]) rfl ?_
          exact ih _ _ h
theorem t_X10_chance {G : Gx} {d : Nat} (hl : G.1.stackTraces = false) (hd : 8 ≤ d) {σ : Sto} {a0 : Nat} {xa1 : Int32} {xa2 : Int32} {r : (Int32 × Sto)} (h : F_X10_chance σ a0 xa1 xa2 = some r) : Mi G d m_X10_chance 10 a0 [.int xa1, .int xa2] σ (.inl (some (.int r.1))) r.2 := by
  rw [F_X10_chance] at h
  obtain ⟨hg, h⟩ := chk_some h
  refine ⟨J.toMt (lo := [(0, .ref a0), (1, .int xa1), (2, .int xa2)]) pn_RX10 rfl hl (Nat.le_of_ble_eq_true rfl) rfl ?_, hg⟩
  refine r_aload_n (dc_X10_chance 0 rfl) rfl rfl ?_
  refine r_iconst (dc_X10_chance 1 rfl) kiconst_0 ?_
  obtain ⟨s1, e0, h⟩ := Option.bind_eq_some_iff.mp h
  refine r_put (dc_X10_chance 2 rfl) pl_RX10_1 rfl e0 ?_
  refine r_iload_n (dc_X10_chance 3 rfl) rfl rfl ?_
  refine r_if_lt (dc_X10_chance 4 rfl) (tgt := 21) (by decide) (fun c0 => ?_) (fun c0 => ?_)
  · rw [if_pos c0] at h
    refine r_aload_n (dc_X10_chance 11 rfl) rfl rfl ?_
    refine r_iconst (dc_X10_chance 12 rfl) kiconst_1 ?_
    obtain ⟨x3, s2, e0, h⟩ := wb_some h
    refine r_callV (dc_X10_chance 13 rfl) mv_X10_fails ml_RX10_101 (As := [.int (1 : Int32)]) (t_X10_fails (d := d - 1) hl (by omega) e0) (by omega) rfl (Nat.le_of_ble_eq_true rfl) ?_
    cases h
    exact r_ireturn (dc_X10_chance 14 rfl) rfl
  · rw [if_neg c0] at h
    refine r_iload_n (dc_X10_chance 5 rfl) rfl rfl ?_
    refine r_i2l (dc_X10_chance 6 rfl) ?_
    refine r_lconst (dc_X10_chance 7 rfl) klconst_0 ?_
    refine r_ldc2 (dc_X10_chance 8 rfl) ck_RX10_266 ?_
    obtain ⟨x4, e0, h⟩ := Option.bind_eq_some_iff.mp h
    refine r_callS (dc_X10_chance 9 rfl) ms_X10_isIn ml_RX10_89 (As := [.long xa2.toInt64, .long (0 : Int64), .long (60 : Int64)]) (t_X10_isIn (d := d - 1) hl (by omega) e0) (by omega) rfl (Nat.le_of_ble_eq_true rfl) ?_
    refine r_if_ne (dc_X10_chance 10 rfl) (tgt := 27) (by decide) (fun c0 => ?_) (fun c0 => ?_)
    · rw [if_neg c0] at h
      refine r_aload_n (dc_X10_chance 15 rfl) rfl rfl ?_
      refine r_iconst (dc_X10_chance 16 rfl) kiconst_0 ?_
      obtain ⟨s5, e0, h⟩ := Option.bind_eq_some_iff.mp h
      refine r_put (dc_X10_chance 17 rfl) pl_RX10_59 rfl e0 ?_
      refine r_aload_n (dc_X10_chance 18 rfl) rfl rfl ?_
      refine r_iload_n (dc_X10_chance 19 rfl) rfl rfl ?_
      refine r_i2l (dc_X10_chance 20 rfl) ?_
      obtain ⟨s6, e0, h⟩ := Option.bind_eq_some_iff.mp h
      refine r_put (dc_X10_chance 21 rfl) pl_RX10_250 rfl e0 ?_
      refine r_aload_n (dc_X10_chance 22 rfl) rfl rfl ?_
      obtain ⟨p7, e0, h⟩ := Option.bind_eq_some_iff.mp h
      refine r_getR (dc_X10_chance 23 rfl) fl_RX10_14 e0 ?_
      refine r_iconst (dc_X10_chance 24 rfl) kiconst_2 ?_
      obtain ⟨x8, e0, h⟩ := Option.bind_eq_some_iff.mp h
      refine r_iald (dc_X10_chance 25 rfl) e0 ?_
      refine r_istore_n (dc_X10_chance 26 rfl) rfl (by decide) (lo' := [(3, .int x8), (0, .ref a0), (1, .int xa1), (2, .int xa2)]) rfl ?_
      refine r_iconst (dc_X10_chance 27 rfl) kiconst_0 ?_
      refine r_istore (dc_X10_chance 28 rfl) (by decide) (lo' := [(4, .int (0 : Int32)), (3, .int x8), (0, .ref a0), (1, .int xa1), (2, .int xa2)]) rfl ?_
      refine r_pick [2, 4, 1, 0] (lo' := [(0, .ref a0), (2, .int xa2), (3, .int x8), (4, .int (0 : Int32))]) rfl ?_
      refine l_X10_chance_L48 hl hd (hk140 := ?_) fu _ _ h
      · intro s23 h
        refine r_aload_n (dc_X10_chance 75 rfl) rfl rfl ?_
        obtain ⟨p24, e0, h⟩ := Option.bind_eq_some_iff.mp h
        refine r_getR (dc_X10_chance 76 rfl) fl_RX10_14 e0 ?_
        refine r_iconst (dc_X10_chance 77 rfl) kiconst_2 ?_
        obtain ⟨x25, e0, h⟩ := Option.bind_eq_some_iff.mp h
        refine r_iald (dc_X10_chance 78 rfl) e0 ?_
        refine r_iload_n (dc_X10_chance 79 rfl) rfl rfl ?_
        refine r_isub (dc_X10_chance 80 rfl) ?_
        cases h
        exact r_ireturn (dc_X10_chance 81 rfl) rfl
    · rw [if_pos c0] at h
      refine r_aload_n (dc_X10_chance 11 rfl) rfl rfl ?_
      refine r_iconst (dc_X10_chance 12 rfl) kiconst_1 ?_
      obtain ⟨x27, s26, e0, h⟩ := wb_some h
      refine r_callV (dc_X10_chance 13 rfl) mv_X10_fails ml_RX10_101 (As := [.int (1 : Int32)]) (t_X10_fails (d := d - 1) hl (by omega) e0) (by omega) rfl (Nat.le_of_ble_eq_true rfl) ?_
      cases h
      exact r_ireturn (dc_X10_chance 14 rfl) rfl
theorem t_X10_keep {G : Gx} {d : Nat} (hl : G.1.stackTraces = false) (hd : 1 ≤ d) {σ : Sto} {a0 : Nat} {xa1 : Int32} {r : (Int32 × Sto)} (h : F_X10_keep σ a0 xa1 = some r) : Mi G d m_X10_keep 10 a0 [.int xa1] σ (.inl (some (.int r.1))) r.2 := by
  rw [F_X10_keep] at h
  obtain ⟨hg, h⟩ := chk_some h
  refine ⟨J.toMt (lo := [(0, .ref a0), (1, .int xa1)]) pn_RX10 rfl hl (Nat.le_of_ble_eq_true rfl) rfl ?_, hg⟩
  refine r_aload_n (dc_X10_keep 0 rfl) rfl rfl ?_
  refine r_iconst (dc_X10_keep 1 rfl) kiconst_0 ?_
  obtain ⟨s1, e0, h⟩ := Option.bind_eq_some_iff.mp h
  refine r_put (dc_X10_keep 2 rfl) pl_RX10_1 rfl e0 ?_
  refine r_iload_n (dc_X10_keep 3 rfl) rfl rfl ?_
  refine r_i2l (dc_X10_keep 4 rfl) ?_
  refine r_lconst (dc_X10_keep 5 rfl) klconst_0 ?_
  refine r_lconst (dc_X10_keep 6 rfl) klconst_1 ?_
  obtain ⟨x2, e0, h⟩ := Option.bind_eq_some_iff.mp h
  refine r_callS (dc_X10_keep 7 rfl) ms_X10_isIn ml_RX10_89 (As := [.long xa1.toInt64, .long (0 : Int64), .long (1 : Int64)]) (t_X10_isIn (d := d - 1) hl (by omega) e0) (by omega) rfl (Nat.le_of_ble_eq_true rfl) ?_
  refine r_if_ne (dc_X10_keep 8 rfl) (tgt := 21) (by decide) (fun c0 => ?_) (fun c0 => ?_)
  · rw [if_neg c0] at h
    refine r_aload_n (dc_X10_keep 13 rfl) rfl rfl ?_
    refine r_iconst (dc_X10_keep 14 rfl) kiconst_0 ?_
    refine r_ldcw (dc_X10_keep 15 rfl) ck_RX10_274 ?_
    refine r_ldc (dc_X10_keep 16 rfl) ck_RX10_82 ?_
    refine r_iload_n (dc_X10_keep 17 rfl) rfl rfl ?_
    refine r_imul (dc_X10_keep 18 rfl) ?_
    refine r_iadd (dc_X10_keep 19 rfl) ?_
    obtain ⟨s3, e0, h⟩ := Option.bind_eq_some_iff.mp h
    refine r_callV (dc_X10_keep 20 rfl) mv_X10_copies ml_RX10_86 (As := [.int (0 : Int32), .int ((98850 : Int32) + ((49425 : Int32) * xa1))]) (t_X10_copies (d := d - 1) hl (by omega) e0) (by omega) rfl (Nat.le_of_ble_eq_true rfl) ?_
    refine r_aload_n (dc_X10_keep 21 rfl) rfl rfl ?_
    obtain ⟨p4, e0, h⟩ := Option.bind_eq_some_iff.mp h
    refine r_getR (dc_X10_keep 22 rfl) fl_RX10_18 e0 ?_
    refine r_iload_n (dc_X10_keep 23 rfl) rfl rfl ?_
    refine r_iconst (dc_X10_keep 24 rfl) kiconst_1 ?_
    obtain ⟨s5, e0, h⟩ := Option.bind_eq_some_iff.mp h
    refine r_zast (dc_X10_keep 25 rfl) e0 ?_
    refine r_aload_n (dc_X10_keep 26 rfl) rfl rfl ?_
    obtain ⟨p6, e0, h⟩ := Option.bind_eq_some_iff.mp h
    refine r_getR (dc_X10_keep 27 rfl) fl_RX10_14 e0 ?_
    refine r_iconst (dc_X10_keep 28 rfl) kiconst_2 ?_
    obtain ⟨x7, e0, h⟩ := Option.bind_eq_some_iff.mp h
    refine r_iald (dc_X10_keep 29 rfl) e0 ?_
    cases h
    exact r_ireturn (dc_X10_keep 30 rfl) rfl
  · rw [if_pos c0] at h
    refine r_aload_n (dc_X10_keep 9 rfl) rfl rfl ?_
    refine r_iconst (dc_X10_keep 10 rfl) kiconst_1 ?_
    obtain ⟨x9, s8, e0, h⟩ := wb_some h
    refine r_callV (dc_X10_keep 11 rfl) mv_X10_fails ml_RX10_101 (As := [.int (1 : Int32)]) (t_X10_fails (d := d - 1) hl (by omega) e0) (by omega) rfl (Nat.le_of_ble_eq_true rfl) ?_
    cases h
    exact r_ireturn (dc_X10_keep 12 rfl) rfl
theorem t_X10_back {G : Gx} {d : Nat} (hl : G.1.stackTraces = false) (hd : 1 ≤ d) {σ : Sto} {a0 : Nat} {xa1 : Int32} {r : (Int32 × Sto)} (h : F_X10_back σ a0 xa1 = some r) : Mi G d m_X10_back 10 a0 [.int xa1] σ (.inl (some (.int r.1))) r.2 := by
  rw [F_X10_back] at h
  obtain ⟨hg, h⟩ := chk_some h
  refine ⟨J.toMt (lo := [(0, .ref a0), (1, .int xa1)]) pn_RX10 rfl hl (Nat.le_of_ble_eq_true rfl) rfl ?_, hg⟩
  refine r_aload_n (dc_X10_back 0 rfl) rfl rfl ?_
  refine r_iconst (dc_X10_back 1 rfl) kiconst_0 ?_
  obtain ⟨s1, e0, h⟩ := Option.bind_eq_some_iff.mp h
  refine r_put (dc_X10_back 2 rfl) pl_RX10_1 rfl e0 ?_
  refine r_iload_n (dc_X10_back 3 rfl) rfl rfl ?_
  refine r_i2l (dc_X10_back 4 rfl) ?_
  refine r_lconst (dc_X10_back 5 rfl) klconst_0 ?_
  refine r_lconst (dc_X10_back 6 rfl) klconst_1 ?_
  obtain ⟨x2, e0, h⟩ := Option.bind_eq_some_iff.mp h
  refine r_callS (dc_X10_back 7 rfl) ms_X10_isIn ml_RX10_89 (As := [.long xa1.toInt64, .long (0 : Int64), .long (1 : Int64)]) (t_X10_isIn (d := d - 1) hl (by omega) e0) (by omega) rfl (Nat.le_of_ble_eq_true rfl) ?_
  refine r_if_ne (dc_X10_back 8 rfl) (tgt := 21) (by decide) (fun c0 => ?_) (fun c0 => ?_)
  · rw [if_neg c0] at h
    refine r_aload_n (dc_X10_back 13 rfl) rfl rfl ?_
    obtain ⟨p3, e0, h⟩ := Option.bind_eq_some_iff.mp h
    refine r_getR (dc_X10_back 14 rfl) fl_RX10_18 e0 ?_
    refine r_iload_n (dc_X10_back 15 rfl) rfl rfl ?_
    obtain ⟨x4, e0, h⟩ := Option.bind_eq_some_iff.mp h
    refine r_zald (dc_X10_back 16 rfl) e0 ?_
    refine r_if_ne (dc_X10_back 17 rfl) (tgt := 36) (by decide) (fun c0 => ?_) (fun c0 => ?_)
    · rw [if_neg c0] at h
      refine r_aload_n (dc_X10_back 22 rfl) rfl rfl ?_
      refine r_ldcw (dc_X10_back 23 rfl) ck_RX10_274 ?_
      refine r_ldc (dc_X10_back 24 rfl) ck_RX10_82 ?_
      refine r_iload_n (dc_X10_back 25 rfl) rfl rfl ?_
      refine r_imul (dc_X10_back 26 rfl) ?_
      refine r_iadd (dc_X10_back 27 rfl) ?_
      refine r_iconst (dc_X10_back 28 rfl) kiconst_0 ?_
      obtain ⟨s5, e0, h⟩ := Option.bind_eq_some_iff.mp h
      refine r_callV (dc_X10_back 29 rfl) mv_X10_copies ml_RX10_86 (As := [.int ((98850 : Int32) + ((49425 : Int32) * xa1)), .int (0 : Int32)]) (t_X10_copies (d := d - 1) hl (by omega) e0) (by omega) rfl (Nat.le_of_ble_eq_true rfl) ?_
      refine r_aload_n (dc_X10_back 30 rfl) rfl rfl ?_
      refine r_iconst (dc_X10_back 31 rfl) kiconst_0 ?_
      obtain ⟨s6, e0, h⟩ := Option.bind_eq_some_iff.mp h
      refine r_put (dc_X10_back 32 rfl) pl_RX10_83 rfl e0 ?_
      refine r_aload_n (dc_X10_back 33 rfl) rfl rfl ?_
      obtain ⟨p7, e0, h⟩ := Option.bind_eq_some_iff.mp h
      refine r_getR (dc_X10_back 34 rfl) fl_RX10_14 e0 ?_
      refine r_iconst (dc_X10_back 35 rfl) kiconst_2 ?_
      obtain ⟨x8, e0, h⟩ := Option.bind_eq_some_iff.mp h
      refine r_iald (dc_X10_back 36 rfl) e0 ?_
      cases h
      exact r_ireturn (dc_X10_back 37 rfl) rfl
    · rw [if_pos c0] at h
      refine r_aload_n (dc_X10_back 18 rfl) rfl rfl ?_
      refine r_iconst (dc_X10_back 19 rfl) kiconst_2 ?_
      obtain ⟨x10, s9, e0, h⟩ := wb_some h
      refine r_callV (dc_X10_back 20 rfl) mv_X10_fails ml_RX10_101 (As := [.int (2 : Int32)]) (t_X10_fails (d := d - 1) hl (by omega) e0) (by omega) rfl (Nat.le_of_ble_eq_true rfl) ?_
      cases h
      exact r_ireturn (dc_X10_back 21 rfl) rfl
  · rw [if_pos c0] at h
    refine r_aload_n (dc_X10_back 9 rfl) rfl rfl ?_
    refine r_iconst (dc_X10_back 10 rfl) kiconst_1 ?_
    obtain ⟨x12, s11, e0, h⟩ := wb_some h
    refine r_callV (dc_X10_back 11 rfl) mv_X10_fails ml_RX10_101 (As := [.int (1 : Int32)]) (t_X10_fails (d := d - 1) hl (by omega) e0) (by omega) rfl (Nat.le_of_ble_eq_true rfl) ?_
    cases h
    exact r_ireturn (dc_X10_back 12 rfl) rfl
theorem t_X10_cut {G : Gx} {d : Nat} (hl : G.1.stackTraces = false) (hd : 3 ≤ d) {σ : Sto} {a0 : Nat} {xa1 : Int32} {xa2 : Int32} {xa3 : Int32} {r : (Int32 × Sto)} (h : F_X10_cut σ a0 xa1 xa2 xa3 = some r) : Mi G d m_X10_cut 10 a0 [.int xa1, .int xa2, .int xa3] σ (.inl (some (.int r.1))) r.2 := by
  rw [F_X10_cut] at h
  obtain ⟨hg, h⟩ := chk_some h
  refine ⟨J.toMt (lo := [(0, .ref a0), (1, .int xa1), (2, .int xa2), (3, .int xa3)]) pn_RX10 rfl hl (Nat.le_of_ble_eq_true rfl) rfl ?_, hg⟩
  refine r_aload_n (dc_X10_cut 0 rfl) rfl rfl ?_
  refine r_iconst (dc_X10_cut 1 rfl) kiconst_0 ?_
  obtain ⟨s1, e0, h⟩ := Option.bind_eq_some_iff.mp h
  refine r_put (dc_X10_cut 2 rfl) pl_RX10_1 rfl e0 ?_
  refine r_aload_n (dc_X10_cut 3 rfl) rfl rfl ?_
  refine r_iconst (dc_X10_cut 4 rfl) kiconst_0 ?_
  obtain ⟨s2, e0, h⟩ := Option.bind_eq_some_iff.mp h
  refine r_put (dc_X10_cut 5 rfl) pl_RX10_59 rfl e0 ?_
  refine r_aload_n (dc_X10_cut 6 rfl) rfl rfl ?_
  refine r_iload_n (dc_X10_cut 7 rfl) rfl rfl ?_
  refine r_iload_n (dc_X10_cut 8 rfl) rfl rfl ?_
  obtain ⟨x3, e0, h⟩ := Option.bind_eq_some_iff.mp h
  refine r_callV (dc_X10_cut 9 rfl) mv_X10_areTwo ml_RX10_211 (As := [.int xa1, .int xa2]) (t_X10_areTwo (d := d - 1) hl (by omega) e0) (by omega) rfl (Nat.le_of_ble_eq_true rfl) ?_
  refine r_if_ne (dc_X10_cut 10 rfl) (tgt := 33) (by decide) (fun c0 => ?_) (fun c0 => ?_)
  · rw [if_neg c0] at h
    refine r_aload_n (dc_X10_cut 19 rfl) rfl rfl ?_
    refine r_iload_n (dc_X10_cut 20 rfl) rfl rfl ?_
    refine r_iload_n (dc_X10_cut 21 rfl) rfl rfl ?_
    obtain ⟨x4, e0, h⟩ := Option.bind_eq_some_iff.mp h
    refine r_callV (dc_X10_cut 22 rfl) mv_X10_isCut ml_RX10_197 (As := [.int xa1, .int xa2]) (t_X10_isCut (d := d - 1) hl (by omega) e0) (by omega) rfl (Nat.le_of_ble_eq_true rfl) ?_
    refine r_iload_n (dc_X10_cut 23 rfl) rfl rfl ?_
    refine r_icmp_ne (dc_X10_cut 24 rfl) (tgt := 45) (by decide) (fun c0 => ?_) (fun c0 => ?_)
    · rw [if_neg c0] at h
      refine r_aload_n (dc_X10_cut 27 rfl) rfl rfl ?_
      obtain ⟨s5, e0, h⟩ := Option.bind_eq_some_iff.mp h
      refine r_callV (dc_X10_cut 28 rfl) mv_X10_steps ml_RX10_141 (As := []) (t_X10_steps (d := d - 1) hl (by omega) e0) (by omega) rfl (Nat.le_of_ble_eq_true rfl) ?_
      refine r_aload_n (dc_X10_cut 29 rfl) rfl rfl ?_
      obtain ⟨p6, e0, h⟩ := Option.bind_eq_some_iff.mp h
      refine r_getR (dc_X10_cut 30 rfl) fl_RX10_14 e0 ?_
      refine r_bipush (dc_X10_cut 31 rfl) kbipush_7 ?_
      refine r_dup2 (dc_X10_cut 32 rfl) rfl rfl ?_
      obtain ⟨x7, e0, h⟩ := Option.bind_eq_some_iff.mp h
      refine r_iald (dc_X10_cut 33 rfl) e0 ?_
      refine r_iconst (dc_X10_cut 34 rfl) kiconst_1 ?_
      refine r_iload_n (dc_X10_cut 35 rfl) rfl rfl ?_
      refine r_iload_n (dc_X10_cut 36 rfl) rfl rfl ?_
      obtain ⟨x8, e0, h⟩ := Option.bind_eq_some_iff.mp h
      refine r_callS (dc_X10_cut 37 rfl) ms_X10_linkOf ml_RX10_194 (As := [.int xa1, .int xa2]) (t_X10_linkOf (d := d - 1) hl (by omega) e0) (by omega) rfl (Nat.le_of_ble_eq_true rfl) ?_
      refine r_ishl (dc_X10_cut 38 rfl) ?_
      refine r_ixor (dc_X10_cut 39 rfl) ?_
      obtain ⟨s9, e0, h⟩ := Option.bind_eq_some_iff.mp h
      refine r_iast (dc_X10_cut 40 rfl) e0 ?_
      refine r_aload_n (dc_X10_cut 41 rfl) rfl rfl ?_
      refine r_bipush (dc_X10_cut 42 rfl) kbipush_9 ?_
      refine r_iload_n (dc_X10_cut 43 rfl) rfl rfl ?_
      refine r_iconst (dc_X10_cut 44 rfl) kiconst_1 ?_
      obtain ⟨x11, s10, e0, h⟩ := wb_some h
      refine r_callV (dc_X10_cut 45 rfl) mv_X10_notes ml_RX10_148 (As := [.int (9 : Int32), .int xa1, .int (1 : Int32)]) (t_X10_notes (d := d - 1) hl (by omega) e0) (by omega) rfl (Nat.le_of_ble_eq_true rfl) ?_
      refine r_iconst (dc_X10_cut 46 rfl) kiconst_1 ?_
      refine r_icmp_ne (dc_X10_cut 47 rfl) (tgt := 82) (by decide) (fun c0 => ?_) (fun c0 => ?_)
      · rw [if_neg c0] at h
        refine r_iconst (dc_X10_cut 50 rfl) kiconst_0 ?_
        cases h
        exact r_zreturn (dc_X10_cut 51 rfl) rfl (Or.inl rfl)
      · rw [if_pos c0] at h
        refine r_iconst (dc_X10_cut 48 rfl) kiconst_1 ?_
        refine r_goto (dc_X10_cut 49 rfl) (tgt := 83) (by decide) ?_
        cases h
        exact r_zreturn (dc_X10_cut 51 rfl) rfl (Or.inr rfl)
    · rw [if_pos c0] at h
      refine r_iconst (dc_X10_cut 25 rfl) kiconst_0 ?_
      cases h
      exact r_zreturn (dc_X10_cut 26 rfl) rfl (Or.inl rfl)
  · rw [if_pos c0] at h
    refine r_aload_n (dc_X10_cut 11 rfl) rfl rfl ?_
    refine r_iconst (dc_X10_cut 12 rfl) kiconst_1 ?_
    obtain ⟨x13, s12, e0, h⟩ := wb_some h
    refine r_callV (dc_X10_cut 13 rfl) mv_X10_fails ml_RX10_101 (As := [.int (1 : Int32)]) (t_X10_fails (d := d - 1) hl (by omega) e0) (by omega) rfl (Nat.le_of_ble_eq_true rfl) ?_
    refine r_if_eq (dc_X10_cut 14 rfl) (tgt := 31) (by decide) (fun c0 => ?_) (fun c0 => ?_)
    · rw [if_pos c0] at h
      refine r_iconst (dc_X10_cut 17 rfl) kiconst_0 ?_
      cases h
      exact r_zreturn (dc_X10_cut 18 rfl) rfl (Or.inl rfl)
    · rw [if_neg c0] at h
      refine r_iconst (dc_X10_cut 15 rfl) kiconst_1 ?_
      refine r_goto (dc_X10_cut 16 rfl) (tgt := 32) (by decide) ?_
      cases h
      exact r_zreturn (dc_X10_cut 18 rfl) rfl (Or.inr rfl)
theorem t_X10_view {G : Gx} {d : Nat} (hl : G.1.stackTraces = false) (hd : 3 ≤ d) {σ : Sto} {a0 : Nat} {xa1 : Int32} {xa2 : Int32} {xa3 : Int32} {r : (Int32 × Sto)} (h : F_X10_view σ a0 xa1 xa2 xa3 = some r) : Mi G d m_X10_view 10 a0 [.int xa1, .int xa2, .int xa3] σ (.inl (some (.int r.1))) r.2 := by
  rw [F_X10_view] at h
  obtain ⟨hg, h⟩ := chk_some h
  refine ⟨J.toMt (lo := [(0, .ref a0), (1, .int xa1), (2, .int xa2), (3, .int xa3)]) pn_RX10 rfl hl (Nat.le_of_ble_eq_true rfl) rfl ?_, hg⟩
  refine r_aload_n (dc_X10_view 0 rfl) rfl rfl ?_
  refine r_iconst (dc_X10_view 1 rfl) kiconst_0 ?_
  obtain ⟨s1, e0, h⟩ := Option.bind_eq_some_iff.mp h
  refine r_put (dc_X10_view 2 rfl) pl_RX10_1 rfl e0 ?_
  refine r_aload_n (dc_X10_view 3 rfl) rfl rfl ?_
  refine r_iconst (dc_X10_view 4 rfl) kiconst_0 ?_
  obtain ⟨s2, e0, h⟩ := Option.bind_eq_some_iff.mp h
  refine r_put (dc_X10_view 5 rfl) pl_RX10_59 rfl e0 ?_
  refine r_aload_n (dc_X10_view 6 rfl) rfl rfl ?_
  refine r_iload_n (dc_X10_view 7 rfl) rfl rfl ?_
  obtain ⟨x3, e0, h⟩ := Option.bind_eq_some_iff.mp h
  refine r_callV (dc_X10_view 8 rfl) mv_X10_isSite ml_RX10_93 (As := [.int xa1]) (t_X10_isSite (d := d - 1) hl (by omega) e0) (by omega) rfl (Nat.le_of_ble_eq_true rfl) ?_
  refine r_if_ne (dc_X10_view 9 rfl) (tgt := 24) (by decide) (fun c0 => ?_) (fun c0 => ?_)
  · rw [if_neg c0] at h
    refine r_iload_n (dc_X10_view 14 rfl) rfl rfl ?_
    refine jn_elim h (Q := fun (j : Int32 → Option (Int32 × Sto)) => ∀ (x5 : Int32), j x5 = some r → J G d m_X10_view 44 [(0, .ref a0), (3, .int xa3)] [.int x5] s2 (.inl (some (.int r.1))) r.2) ?_ (fun j4 hj4 h => ?_)
    · intro x5 h
      refine r_istore (dc_X10_view 25 rfl) (by decide) (lo' := [(4, .int x5), (0, .ref a0), (3, .int xa3)]) rfl ?_
      refine r_iload (dc_X10_view 26 rfl) rfl ?_
      refine r_iconst (dc_X10_view 27 rfl) kiconst_m1 ?_
      refine r_icmp_ne (dc_X10_view 28 rfl) (tgt := 58) (by decide) (fun c0 => ?_) (fun c0 => ?_)
      · rw [if_neg c0] at h
        refine r_iload_n (dc_X10_view 33 rfl) rfl rfl ?_
        refine r_i2l (dc_X10_view 34 rfl) ?_
        refine r_lconst (dc_X10_view 35 rfl) klconst_0 ?_
        refine r_lconst (dc_X10_view 36 rfl) klconst_1 ?_
        obtain ⟨x6, e0, h⟩ := Option.bind_eq_some_iff.mp h
        refine r_callS (dc_X10_view 37 rfl) ms_X10_isIn ml_RX10_89 (As := [.long xa3.toInt64, .long (0 : Int64), .long (1 : Int64)]) (t_X10_isIn (d := d - 1) hl (by omega) e0) (by omega) rfl (Nat.le_of_ble_eq_true rfl) ?_
        refine r_if_ne (dc_X10_view 38 rfl) (tgt := 74) (by decide) (fun c0 => ?_) (fun c0 => ?_)
        · rw [if_neg c0] at h
          refine r_iload_n (dc_X10_view 43 rfl) rfl rfl ?_
          refine r_if_ne (dc_X10_view 44 rfl) (tgt := 83) (by decide) (fun c0 => ?_) (fun c0 => ?_)
          · rw [if_neg c0] at h
            refine r_aload_n (dc_X10_view 47 rfl) rfl rfl ?_
            obtain ⟨p7, e0, h⟩ := Option.bind_eq_some_iff.mp h
            refine r_getR (dc_X10_view 48 rfl) fl_RX10_14 e0 ?_
            refine r_iload (dc_X10_view 49 rfl) rfl ?_
            obtain ⟨x8, e0, h⟩ := Option.bind_eq_some_iff.mp h
            refine r_callS (dc_X10_view 50 rfl) ms_X10_eventOf ml_RX10_108 (As := [.int x5]) (t_X10_eventOf (d := d - 1) hl (by omega) e0) (by omega) rfl (Nat.le_of_ble_eq_true rfl) ?_
            refine r_iconst (dc_X10_view 51 rfl) kiconst_4 ?_
            refine r_iadd (dc_X10_view 52 rfl) ?_
            obtain ⟨x9, e0, h⟩ := Option.bind_eq_some_iff.mp h
            refine r_iald (dc_X10_view 53 rfl) e0 ?_
            cases h
            exact r_ireturn (dc_X10_view 54 rfl) rfl
          · rw [if_pos c0] at h
            refine r_iload (dc_X10_view 45 rfl) rfl ?_
            refine r_goto (dc_X10_view 46 rfl) (tgt := 95) (by decide) ?_
            cases h
            exact r_ireturn (dc_X10_view 54 rfl) rfl
        · rw [if_pos c0] at h
          refine r_aload_n (dc_X10_view 39 rfl) rfl rfl ?_
          refine r_iconst (dc_X10_view 40 rfl) kiconst_3 ?_
          obtain ⟨x11, s10, e0, h⟩ := wb_some h
          refine r_callV (dc_X10_view 41 rfl) mv_X10_fails ml_RX10_101 (As := [.int (3 : Int32)]) (t_X10_fails (d := d - 1) hl (by omega) e0) (by omega) rfl (Nat.le_of_ble_eq_true rfl) ?_
          cases h
          exact r_ireturn (dc_X10_view 42 rfl) rfl
      · rw [if_pos c0] at h
        refine r_aload_n (dc_X10_view 29 rfl) rfl rfl ?_
        refine r_iconst (dc_X10_view 30 rfl) kiconst_2 ?_
        obtain ⟨x13, s12, e0, h⟩ := wb_some h
        refine r_callV (dc_X10_view 31 rfl) mv_X10_fails ml_RX10_101 (As := [.int (2 : Int32)]) (t_X10_fails (d := d - 1) hl (by omega) e0) (by omega) rfl (Nat.le_of_ble_eq_true rfl) ?_
        cases h
        exact r_ireturn (dc_X10_view 32 rfl) rfl
    refine r_if_ge (dc_X10_view 15 rfl) (tgt := 32) (by decide) (fun c0 => ?_) (fun c0 => ?_)
    · rw [if_pos c0] at h
      refine r_aload_n (dc_X10_view 18 rfl) rfl rfl ?_
      refine r_iload_n (dc_X10_view 19 rfl) rfl rfl ?_
      obtain ⟨x14, e0, h⟩ := Option.bind_eq_some_iff.mp h
      refine r_callS (dc_X10_view 20 rfl) ms_X10_stateOf ml_RX10_111 (As := [.int xa1]) (t_X10_stateOf (d := d - 1) hl (by omega) e0) (by omega) rfl (Nat.le_of_ble_eq_true rfl) ?_
      refine r_bipush (dc_X10_view 21 rfl) kbipush_29 ?_
      refine r_iadd (dc_X10_view 22 rfl) ?_
      refine r_iload_n (dc_X10_view 23 rfl) rfl rfl ?_
      obtain ⟨x15, e0, h⟩ := Option.bind_eq_some_iff.mp h
      refine r_callV (dc_X10_view 24 rfl) mv_X10_kthOf ml_RX10_263 (As := [.int (x14 + (29 : Int32)), .int xa2]) (t_X10_kthOf (d := d - 1) hl (by omega) e0) (by omega) rfl (Nat.le_of_ble_eq_true rfl) ?_
      refine r_pick [0, 3] (lo' := [(0, .ref a0), (3, .int xa3)]) rfl ?_
      exact hj4 _ h
    · rw [if_neg c0] at h
      refine r_iconst (dc_X10_view 16 rfl) kiconst_m1 ?_
      refine r_goto (dc_X10_view 17 rfl) (tgt := 44) (by decide) ?_
      refine r_pick [0, 3] (lo' := [(0, .ref a0), (3, .int xa3)]) rfl ?_
      exact hj4 _ h
  · rw [if_pos c0] at h
    refine r_aload_n (dc_X10_view 10 rfl) rfl rfl ?_
    refine r_iconst (dc_X10_view 11 rfl) kiconst_1 ?_
    obtain ⟨x17, s16, e0, h⟩ := wb_some h
    refine r_callV (dc_X10_view 12 rfl) mv_X10_fails ml_RX10_101 (As := [.int (1 : Int32)]) (t_X10_fails (d := d - 1) hl (by omega) e0) (by omega) rfl (Nat.le_of_ble_eq_true rfl) ?_
    cases h
    exact r_ireturn (dc_X10_view 13 rfl) rfl
theorem l_X10_named_L66 {G : Gx} {d : Nat} (hl : G.1.stackTraces = false) (hd : 2 ≤ d) {sL : Sto} {pL0 : Nat} {xL1 : Int32} {xL2 : Int32} {xL3 : Int32} {r : (Int32 × Sto)} {k135 : Int32 → Int32 → Int32 → Option (Int32 × Sto)}
    (hk135 : ∀ (xL4 : Int32) (xL5 : Int32) (xL6 : Int32), k135 xL4 xL5 xL6 = some r → J G d m_X10_named 135 [(3, .int xL3), (4, .int xL4), (5, .int xL5), (6, .int xL6)] [] sL (.inl (some (.int r.1))) r.2)
  : ∀ (f : Nat) (xL4 : Int32) (xL5 : Int32) (xL6 : Int32) (xL7 : Int32), F_X10_named_L66 sL pL0 xL1 xL2 f xL4 xL5 xL6 xL7 k135 = some r → J G d m_X10_named 66 [(0, .ref pL0), (1, .int xL1), (2, .int xL2), (3, .int xL3), (4, .int xL4), (5, .int xL5), (6, .int xL6), (7, .int xL7)] [] sL (.inl (some (.int r.1))) r.2 := by
  intro f
  induction f with
  | zero => intro xL4 xL5 xL6 xL7 h; rw [F_X10_named_L66] at h; cases h
  | succ f ih =>
    intro xL4 xL5 xL6 xL7 h
    rw [F_X10_named_L66] at h
    refine r_iload (dc_X10_named 38 rfl) rfl ?_
    refine r_aload_n (dc_X10_named 39 rfl) rfl rfl ?_
    obtain ⟨p8, e0, h⟩ := Option.bind_eq_some_iff.mp h
    refine r_getR (dc_X10_named 40 rfl) fl_RX10_14 e0 ?_
    refine r_iconst (dc_X10_named 41 rfl) kiconst_2 ?_
    obtain ⟨x9, e0, h⟩ := Option.bind_eq_some_iff.mp h
    refine r_iald (dc_X10_named 42 rfl) e0 ?_
    refine r_icmp_ge (dc_X10_named 43 rfl) (tgt := 135) (by decide) (fun c0 => ?_) (fun c0 => ?_)
    · rw [if_pos c0] at h
      refine r_pick [3, 4, 5, 6] (lo' := [(3, .int xL3), (4, .int xL4), (5, .int xL5), (6, .int xL6)]) rfl ?_
      exact hk135 _ _ _ h
    · rw [if_neg c0] at h
      refine r_aload_n (dc_X10_named 44 rfl) rfl rfl ?_
      refine r_iload_n (dc_X10_named 45 rfl) rfl rfl ?_
      obtain ⟨x10, e0, h⟩ := Option.bind_eq_some_iff.mp h
      refine r_callS (dc_X10_named 46 rfl) ms_X10_stateOf ml_RX10_111 (As := [.int xL1]) (t_X10_stateOf (d := d - 1) hl (by omega) e0) (by omega) rfl (Nat.le_of_ble_eq_true rfl) ?_
      refine r_bipush (dc_X10_named 47 rfl) kbipush_29 ?_
      refine r_iadd (dc_X10_named 48 rfl) ?_
      refine r_iload (dc_X10_named 49 rfl) rfl ?_
      obtain ⟨x11, e0, h⟩ := Option.bind_eq_some_iff.mp h
      refine r_callV (dc_X10_named 50 rfl) mv_X10_isOf ml_RX10_70 (As := [.int (x10 + (29 : Int32)), .int xL7]) (t_X10_isOf (d := d - 1) hl (by omega) e0) (by omega) rfl (Nat.le_of_ble_eq_true rfl) ?_
      refine r_if_eq (dc_X10_named 51 rfl) (tgt := 129) (by decide) (fun c0 => ?_) (fun c0 => ?_)
      · rw [if_pos c0] at h
        refine r_iinc (dc_X10_named 70 rfl) rfl (kinc_1 _) (by decide) (lo' := [(7, .int (xL7 + (1 : Int32))), (0, .ref pL0), (1, .int xL1), (2, .int xL2), (3, .int xL3), (4, .int xL4), (5, .int xL5), (6, .int xL6)]) rfl ?_
        refine r_goto (dc_X10_named 71 rfl) (tgt := 66) (by decide) ?_
        refine r_pick [1, 2, 3, 4, 5, 6, 7, 0] (lo' := [(0, .ref pL0), (1, .int xL1), (2, .int xL2), (3, .int xL3), (4, .int xL4), (5, .int xL5), (6, .int xL6), (7, .int (xL7 + (1 : Int32)))]) rfl ?_
        exact ih _ _ _ _ h
      · rw [if_neg c0] at h
        refine r_aload_n (dc_X10_named 52 rfl) rfl rfl ?_
        obtain ⟨p12, e0, h⟩ := Option.bind_eq_some_iff.mp h
        refine r_getR (dc_X10_named 53 rfl) fl_RX10_14 e0 ?_
        refine r_iload (dc_X10_named 54 rfl) rfl ?_
        obtain ⟨x13, e0, h⟩ := Option.bind_eq_some_iff.mp h
        refine r_callS (dc_X10_named 55 rfl) ms_X10_eventOf ml_RX10_108 (As := [.int xL7]) (t_X10_eventOf (d := d - 1) hl (by omega) e0) (by omega) rfl (Nat.le_of_ble_eq_true rfl) ?_
        refine r_iconst (dc_X10_named 56 rfl) kiconst_4 ?_
        refine r_iadd (dc_X10_named 57 rfl) ?_
        obtain ⟨x14, e0, h⟩ := Option.bind_eq_some_iff.mp h
        refine r_iald (dc_X10_named 58 rfl) e0 ?_
        refine r_iload_n (dc_X10_named 59 rfl) rfl rfl ?_
        refine r_icmp_eq (dc_X10_named 60 rfl) (tgt := 112) (by decide) (fun c0 => ?_) (fun c0 => ?_)
        · rw [if_pos c0] at h
          refine r_iinc (dc_X10_named 62 rfl) rfl (kinc_1 _) (by decide) (lo' := [(4, .int (xL4 + (1 : Int32))), (0, .ref pL0), (1, .int xL1), (2, .int xL2), (3, .int xL3), (5, .int xL5), (6, .int xL6), (7, .int xL7)]) rfl ?_
          refine r_iload (dc_X10_named 63 rfl) rfl ?_
          refine r_iconst (dc_X10_named 64 rfl) kiconst_m1 ?_
          refine r_icmp_ne (dc_X10_named 65 rfl) (tgt := 125) (by decide) (fun c0 => ?_) (fun c0 => ?_)
          · rw [if_neg c0] at h
            refine r_iload (dc_X10_named 68 rfl) rfl ?_
            refine r_istore (dc_X10_named 69 rfl) (by decide) (lo' := [(6, .int xL7), (4, .int (xL4 + (1 : Int32))), (0, .ref pL0), (1, .int xL1), (2, .int xL2), (3, .int xL3), (5, .int xL5), (7, .int xL7)]) rfl ?_
            refine r_iinc (dc_X10_named 70 rfl) rfl (kinc_1 _) (by decide) (lo' := [(7, .int (xL7 + (1 : Int32))), (6, .int xL7), (4, .int (xL4 + (1 : Int32))), (0, .ref pL0), (1, .int xL1), (2, .int xL2), (3, .int xL3), (5, .int xL5)]) rfl ?_
            refine r_goto (dc_X10_named 71 rfl) (tgt := 66) (by decide) ?_
            refine r_pick [3, 4, 5, 6, 2, 7, 1, 0] (lo' := [(0, .ref pL0), (1, .int xL1), (2, .int xL2), (3, .int xL3), (4, .int (xL4 + (1 : Int32))), (5, .int xL5), (6, .int xL7), (7, .int (xL7 + (1 : Int32)))]) rfl ?_
            exact ih _ _ _ _ h
          · rw [if_pos c0] at h
            refine r_iload (dc_X10_named 66 rfl) rfl ?_
            refine r_istore (dc_X10_named 67 rfl) (by decide) (lo' := [(5, .int xL7), (4, .int (xL4 + (1 : Int32))), (0, .ref pL0), (1, .int xL1), (2, .int xL2), (3, .int xL3), (6, .int xL6), (7, .int xL7)]) rfl ?_
            refine r_iload (dc_X10_named 68 rfl) rfl ?_
            refine r_istore (dc_X10_named 69 rfl) (by decide) (lo' := [(6, .int xL7), (5, .int xL7), (4, .int (xL4 + (1 : Int32))), (0, .ref pL0), (1, .int xL1), (2, .int xL2), (3, .int xL3), (7, .int xL7)]) rfl ?_
            refine r_iinc (dc_X10_named 70 rfl) rfl (kinc_1 _) (by decide) (lo' := [(7, .int (xL7 + (1 : Int32))), (6, .int xL7), (5, .int xL7), (4, .int (xL4 + (1 : Int32))), (0, .ref pL0), (1, .int xL1), (2, .int xL2), (3, .int xL3)]) rfl ?_
            refine r_goto (dc_X10_named 71 rfl) (tgt := 66) (by decide) ?_
            refine r_pick [4, 5, 6, 7, 3, 2, 1, 0] (lo' := [(0, .ref pL0), (1, .int xL1), (2, .int xL2), (3, .int xL3), (4, .int (xL4 + (1 : Int32))), (5, .int xL7), (6, .int xL7), (7, .int (xL7 + (1 : Int32)))]) rfl ?_
            exact ih _ _ _ _ h
        · rw [if_neg c0] at h
          refine r_goto (dc_X10_named 61 rfl) (tgt := 129) (by decide) ?_
          refine r_iinc (dc_X10_named 70 rfl) rfl (kinc_1 _) (by decide) (lo' := [(7, .int (xL7 + (1 : Int32))), (0, .ref pL0), (1, .int xL1), (2, .int xL2), (3, .int xL3), (4, .int xL4), (5, .int xL5), (6, .int xL6)]) rfl ?_
          refine r_goto (dc_X10_named 71 rfl) (tgt := 66) (by decide) ?_
          refine r_pick [1, 2, 3, 4, 5, 6, 7, 0] (lo' := [(0, .ref pL0), (1, .int xL1), (2, .int xL2), (3, .int xL3), (4, .int xL4), (5, .int xL5), (6, .int xL6), (7, .int (xL7 + (1 : Int32)))]) rfl ?_
          exact ih _ _ _ _ h
