theorem t_X10_named {G : Gx} {d : Nat} (hl : G.1.stackTraces = false) (hd : 2 ≤ d) {σ : Sto} {a0 : Nat} {xa1 : Int32} {xa2 : Int32} {xa3 : Int32} {r : (Int32 × Sto)} (h : F_X10_named σ a0 xa1 xa2 xa3 = some r) : Mi G d m_X10_named 10 a0 [.int xa1, .int xa2, .int xa3] σ (.inl (some (.int r.1))) r.2 := by
  rw [F_X10_named] at h
  obtain ⟨hg, h⟩ := chk_some h
  refine ⟨J.toMt (lo := [(0, .ref a0), (1, .int xa1), (2, .int xa2), (3, .int xa3)]) pn_RX10 rfl hl (Nat.le_of_ble_eq_true rfl) rfl ?_, hg⟩
  refine r_aload_n (dc_X10_named 0 rfl) rfl rfl ?_
  refine r_iconst (dc_X10_named 1 rfl) kiconst_0 ?_
  obtain ⟨s1, e0, h⟩ := Option.bind_eq_some_iff.mp h
  refine r_put (dc_X10_named 2 rfl) pl_RX10_1 rfl e0 ?_
  refine r_aload_n (dc_X10_named 3 rfl) rfl rfl ?_
  refine r_iconst (dc_X10_named 4 rfl) kiconst_0 ?_
  obtain ⟨s2, e0, h⟩ := Option.bind_eq_some_iff.mp h
  refine r_put (dc_X10_named 5 rfl) pl_RX10_59 rfl e0 ?_
  refine r_aload_n (dc_X10_named 6 rfl) rfl rfl ?_
  refine r_iload_n (dc_X10_named 7 rfl) rfl rfl ?_
  obtain ⟨x3, e0, h⟩ := Option.bind_eq_some_iff.mp h
  refine r_callV (dc_X10_named 8 rfl) mv_X10_isSite ml_RX10_93 (As := [.int xa1]) (t_X10_isSite (d := d - 1) hl (by omega) e0) (by omega) rfl (Nat.le_of_ble_eq_true rfl) ?_
  refine r_if_ne (dc_X10_named 9 rfl) (tgt := 24) (by decide) (fun c0 => ?_) (fun c0 => ?_)
  · rw [if_neg c0] at h
    refine r_iload_n (dc_X10_named 14 rfl) rfl rfl ?_
    refine r_i2l (dc_X10_named 15 rfl) ?_
    refine r_lconst (dc_X10_named 16 rfl) klconst_0 ?_
    refine r_ldc2 (dc_X10_named 17 rfl) ck_RX10_151 ?_
    obtain ⟨x4, e0, h⟩ := Option.bind_eq_some_iff.mp h
    refine r_callS (dc_X10_named 18 rfl) ms_X10_isIn ml_RX10_89 (As := [.long xa2.toInt64, .long (0 : Int64), .long (99 : Int64)]) (t_X10_isIn (d := d - 1) hl (by omega) e0) (by omega) rfl (Nat.le_of_ble_eq_true rfl) ?_
    refine r_if_eq (dc_X10_named 19 rfl) (tgt := 48) (by decide) (fun c0 => ?_) (fun c0 => ?_)
    · rw [if_pos c0] at h
      refine r_aload_n (dc_X10_named 26 rfl) rfl rfl ?_
      refine r_iconst (dc_X10_named 27 rfl) kiconst_2 ?_
      obtain ⟨x6, s5, e0, h⟩ := wb_some h
      refine r_callV (dc_X10_named 28 rfl) mv_X10_fails ml_RX10_101 (As := [.int (2 : Int32)]) (t_X10_fails (d := d - 1) hl (by omega) e0) (by omega) rfl (Nat.le_of_ble_eq_true rfl) ?_
      cases h
      exact r_ireturn (dc_X10_named 29 rfl) rfl
    · rw [if_neg c0] at h
      refine r_iload_n (dc_X10_named 20 rfl) rfl rfl ?_
      refine r_i2l (dc_X10_named 21 rfl) ?_
      refine r_lconst (dc_X10_named 22 rfl) klconst_0 ?_
      refine r_ldc2 (dc_X10_named 23 rfl) ck_RX10_97 ?_
      obtain ⟨x7, e0, h⟩ := Option.bind_eq_some_iff.mp h
      refine r_callS (dc_X10_named 24 rfl) ms_X10_isIn ml_RX10_89 (As := [.long xa3.toInt64, .long (0 : Int64), .long (2 : Int64)]) (t_X10_isIn (d := d - 1) hl (by omega) e0) (by omega) rfl (Nat.le_of_ble_eq_true rfl) ?_
      refine r_if_ne (dc_X10_named 25 rfl) (tgt := 54) (by decide) (fun c0 => ?_) (fun c0 => ?_)
      · rw [if_neg c0] at h
        refine r_iconst (dc_X10_named 30 rfl) kiconst_0 ?_
        refine r_istore (dc_X10_named 31 rfl) (by decide) (lo' := [(4, .int (0 : Int32)), (0, .ref a0), (1, .int xa1), (2, .int xa2), (3, .int xa3)]) rfl ?_
        refine r_iconst (dc_X10_named 32 rfl) kiconst_m1 ?_
        refine r_istore (dc_X10_named 33 rfl) (by decide) (lo' := [(5, .int (-1 : Int32)), (4, .int (0 : Int32)), (0, .ref a0), (1, .int xa1), (2, .int xa2), (3, .int xa3)]) rfl ?_
        refine r_iconst (dc_X10_named 34 rfl) kiconst_m1 ?_
        refine r_istore (dc_X10_named 35 rfl) (by decide) (lo' := [(6, .int (-1 : Int32)), (5, .int (-1 : Int32)), (4, .int (0 : Int32)), (0, .ref a0), (1, .int xa1), (2, .int xa2), (3, .int xa3)]) rfl ?_
        refine r_iconst (dc_X10_named 36 rfl) kiconst_0 ?_
        refine r_istore (dc_X10_named 37 rfl) (by decide) (lo' := [(7, .int (0 : Int32)), (6, .int (-1 : Int32)), (5, .int (-1 : Int32)), (4, .int (0 : Int32)), (0, .ref a0), (1, .int xa1), (2, .int xa2), (3, .int xa3)]) rfl ?_
        refine r_pick [4, 5, 6, 7, 3, 2, 1, 0] (lo' := [(0, .ref a0), (1, .int xa1), (2, .int xa2), (3, .int xa3), (4, .int (0 : Int32)), (5, .int (-1 : Int32)), (6, .int (-1 : Int32)), (7, .int (0 : Int32))]) rfl ?_
        refine l_X10_named_L66 hl hd (hk135 := ?_) fu _ _ _ _ h
        · intro x15 x16 x17 h
          refine r_iload_n (dc_X10_named 72 rfl) rfl rfl ?_
          refine r_if_ne (dc_X10_named 73 rfl) (tgt := 144) (by decide) (fun c0 => ?_) (fun c0 => ?_)
          · rw [if_neg c0] at h
            refine r_iload_n (dc_X10_named 76 rfl) rfl rfl ?_
            refine r_iconst (dc_X10_named 77 rfl) kiconst_1 ?_
            refine r_icmp_ne (dc_X10_named 78 rfl) (tgt := 154) (by decide) (fun c0 => ?_) (fun c0 => ?_)
            · rw [if_neg c0] at h
              refine r_iload (dc_X10_named 81 rfl) rfl ?_
              cases h
              exact r_ireturn (dc_X10_named 82 rfl) rfl
            · rw [if_pos c0] at h
              refine r_iload (dc_X10_named 79 rfl) rfl ?_
              refine r_goto (dc_X10_named 80 rfl) (tgt := 156) (by decide) ?_
              cases h
              exact r_ireturn (dc_X10_named 82 rfl) rfl
          · rw [if_pos c0] at h
            refine r_iload (dc_X10_named 74 rfl) rfl ?_
            refine r_goto (dc_X10_named 75 rfl) (tgt := 156) (by decide) ?_
            cases h
            exact r_ireturn (dc_X10_named 82 rfl) rfl
      · rw [if_pos c0] at h
        refine r_aload_n (dc_X10_named 26 rfl) rfl rfl ?_
        refine r_iconst (dc_X10_named 27 rfl) kiconst_2 ?_
        obtain ⟨x19, s18, e0, h⟩ := wb_some h
        refine r_callV (dc_X10_named 28 rfl) mv_X10_fails ml_RX10_101 (As := [.int (2 : Int32)]) (t_X10_fails (d := d - 1) hl (by omega) e0) (by omega) rfl (Nat.le_of_ble_eq_true rfl) ?_
        cases h
        exact r_ireturn (dc_X10_named 29 rfl) rfl
  · rw [if_pos c0] at h
    refine r_aload_n (dc_X10_named 10 rfl) rfl rfl ?_
    refine r_iconst (dc_X10_named 11 rfl) kiconst_1 ?_
    obtain ⟨x21, s20, e0, h⟩ := wb_some h
    refine r_callV (dc_X10_named 12 rfl) mv_X10_fails ml_RX10_101 (As := [.int (1 : Int32)]) (t_X10_fails (d := d - 1) hl (by omega) e0) (by omega) rfl (Nat.le_of_ble_eq_true rfl) ?_
    cases h
    exact r_ireturn (dc_X10_named 13 rfl) rfl
theorem t_X10_log {G : Gx} {d : Nat} (hl : G.1.stackTraces = false) (hd : 2 ≤ d) {σ : Sto} {a0 : Nat} {xa1 : Int32} {xa2 : Int32} {r : (Int32 × Sto)} (h : F_X10_log σ a0 xa1 xa2 = some r) : Mi G d m_X10_log 10 a0 [.int xa1, .int xa2] σ (.inl (some (.int r.1))) r.2 := by
  rw [F_X10_log] at h
  obtain ⟨hg, h⟩ := chk_some h
  refine ⟨J.toMt (lo := [(0, .ref a0), (1, .int xa1), (2, .int xa2)]) pn_RX10 rfl hl (Nat.le_of_ble_eq_true rfl) rfl ?_, hg⟩
  refine r_aload_n (dc_X10_log 0 rfl) rfl rfl ?_
  refine r_iconst (dc_X10_log 1 rfl) kiconst_0 ?_
  obtain ⟨s1, e0, h⟩ := Option.bind_eq_some_iff.mp h
  refine r_put (dc_X10_log 2 rfl) pl_RX10_1 rfl e0 ?_
  refine r_aload_n (dc_X10_log 3 rfl) rfl rfl ?_
  refine r_iload_n (dc_X10_log 4 rfl) rfl rfl ?_
  obtain ⟨x2, e0, h⟩ := Option.bind_eq_some_iff.mp h
  refine r_callV (dc_X10_log 5 rfl) mv_X10_isSite ml_RX10_93 (As := [.int xa1]) (t_X10_isSite (d := d - 1) hl (by omega) e0) (by omega) rfl (Nat.le_of_ble_eq_true rfl) ?_
  refine r_if_ne (dc_X10_log 6 rfl) (tgt := 19) (by decide) (fun c0 => ?_) (fun c0 => ?_)
  · rw [if_neg c0] at h
    refine r_iload_n (dc_X10_log 11 rfl) rfl rfl ?_
    refine r_i2l (dc_X10_log 12 rfl) ?_
    refine r_lconst (dc_X10_log 13 rfl) klconst_0 ?_
    refine r_aload_n (dc_X10_log 14 rfl) rfl rfl ?_
    obtain ⟨p3, e0, h⟩ := Option.bind_eq_some_iff.mp h
    refine r_getR (dc_X10_log 15 rfl) fl_RX10_14 e0 ?_
    refine r_iload_n (dc_X10_log 16 rfl) rfl rfl ?_
    obtain ⟨x4, e0, h⟩ := Option.bind_eq_some_iff.mp h
    refine r_callS (dc_X10_log 17 rfl) ms_X10_stateOf ml_RX10_111 (As := [.int xa1]) (t_X10_stateOf (d := d - 1) hl (by omega) e0) (by omega) rfl (Nat.le_of_ble_eq_true rfl) ?_
    refine r_bipush (dc_X10_log 18 rfl) kbipush_33 ?_
    refine r_iadd (dc_X10_log 19 rfl) ?_
    obtain ⟨x5, e0, h⟩ := Option.bind_eq_some_iff.mp h
    refine r_iald (dc_X10_log 20 rfl) e0 ?_
    refine r_iconst (dc_X10_log 21 rfl) kiconst_1 ?_
    refine r_isub (dc_X10_log 22 rfl) ?_
    refine r_i2l (dc_X10_log 23 rfl) ?_
    obtain ⟨x6, e0, h⟩ := Option.bind_eq_some_iff.mp h
    refine r_callS (dc_X10_log 24 rfl) ms_X10_isIn ml_RX10_89 (As := [.long xa2.toInt64, .long (0 : Int64), .long (x5 - (1 : Int32)).toInt64]) (t_X10_isIn (d := d - 1) hl (by omega) e0) (by omega) rfl (Nat.le_of_ble_eq_true rfl) ?_
    refine r_if_eq (dc_X10_log 25 rfl) (tgt := 60) (by decide) (fun c0 => ?_) (fun c0 => ?_)
    · rw [if_pos c0] at h
      refine r_aload_n (dc_X10_log 36 rfl) rfl rfl ?_
      refine r_iconst (dc_X10_log 37 rfl) kiconst_2 ?_
      obtain ⟨x8, s7, e0, h⟩ := wb_some h
      refine r_callV (dc_X10_log 38 rfl) mv_X10_fails ml_RX10_101 (As := [.int (2 : Int32)]) (t_X10_fails (d := d - 1) hl (by omega) e0) (by omega) rfl (Nat.le_of_ble_eq_true rfl) ?_
      cases h
      exact r_ireturn (dc_X10_log 39 rfl) rfl
    · rw [if_neg c0] at h
      refine r_aload_n (dc_X10_log 26 rfl) rfl rfl ?_
      obtain ⟨p9, e0, h⟩ := Option.bind_eq_some_iff.mp h
      refine r_getR (dc_X10_log 27 rfl) fl_RX10_14 e0 ?_
      refine r_iload_n (dc_X10_log 28 rfl) rfl rfl ?_
      obtain ⟨x10, e0, h⟩ := Option.bind_eq_some_iff.mp h
      refine r_callS (dc_X10_log 29 rfl) ms_X10_stateOf ml_RX10_111 (As := [.int xa1]) (t_X10_stateOf (d := d - 1) hl (by omega) e0) (by omega) rfl (Nat.le_of_ble_eq_true rfl) ?_
      refine r_bipush (dc_X10_log 30 rfl) kbipush_34 ?_
      refine r_iadd (dc_X10_log 31 rfl) ?_
      refine r_iload_n (dc_X10_log 32 rfl) rfl rfl ?_
      refine r_iadd (dc_X10_log 33 rfl) ?_
      obtain ⟨x11, e0, h⟩ := Option.bind_eq_some_iff.mp h
      refine r_iald (dc_X10_log 34 rfl) e0 ?_
      refine r_goto (dc_X10_log 35 rfl) (tgt := 65) (by decide) ?_
      cases h
      exact r_ireturn (dc_X10_log 39 rfl) rfl
  · rw [if_pos c0] at h
    refine r_aload_n (dc_X10_log 7 rfl) rfl rfl ?_
    refine r_iconst (dc_X10_log 8 rfl) kiconst_1 ?_
    obtain ⟨x13, s12, e0, h⟩ := wb_some h
    refine r_callV (dc_X10_log 9 rfl) mv_X10_fails ml_RX10_101 (As := [.int (1 : Int32)]) (t_X10_fails (d := d - 1) hl (by omega) e0) (by omega) rfl (Nat.le_of_ble_eq_true rfl) ?_
    cases h
    exact r_ireturn (dc_X10_log 10 rfl) rfl
theorem t_X10_table {G : Gx} {d : Nat} (hl : G.1.stackTraces = false) (hd : 2 ≤ d) {σ : Sto} {a0 : Nat} {xa1 : Int32} {xa2 : Int32} {xa3 : Int32} {r : (Int32 × Sto)} (h : F_X10_table σ a0 xa1 xa2 xa3 = some r) : Mi G d m_X10_table 10 a0 [.int xa1, .int xa2, .int xa3] σ (.inl (some (.int r.1))) r.2 := by
  rw [F_X10_table] at h
  obtain ⟨hg, h⟩ := chk_some h
  refine ⟨J.toMt (lo := [(0, .ref a0), (1, .int xa1), (2, .int xa2), (3, .int xa3)]) pn_RX10 rfl hl (Nat.le_of_ble_eq_true rfl) rfl ?_, hg⟩
  refine r_aload_n (dc_X10_table 0 rfl) rfl rfl ?_
  refine r_iconst (dc_X10_table 1 rfl) kiconst_0 ?_
  obtain ⟨s1, e0, h⟩ := Option.bind_eq_some_iff.mp h
  refine r_put (dc_X10_table 2 rfl) pl_RX10_1 rfl e0 ?_
  refine r_aload_n (dc_X10_table 3 rfl) rfl rfl ?_
  refine r_iload_n (dc_X10_table 4 rfl) rfl rfl ?_
  obtain ⟨x2, e0, h⟩ := Option.bind_eq_some_iff.mp h
  refine r_callV (dc_X10_table 5 rfl) mv_X10_isSite ml_RX10_93 (As := [.int xa1]) (t_X10_isSite (d := d - 1) hl (by omega) e0) (by omega) rfl (Nat.le_of_ble_eq_true rfl) ?_
  refine r_if_eq (dc_X10_table 6 rfl) (tgt := 43) (by decide) (fun c0 => ?_) (fun c0 => ?_)
  · rw [if_pos c0] at h
    refine r_aload_n (dc_X10_table 23 rfl) rfl rfl ?_
    refine r_iconst (dc_X10_table 24 rfl) kiconst_1 ?_
    obtain ⟨x4, s3, e0, h⟩ := wb_some h
    refine r_callV (dc_X10_table 25 rfl) mv_X10_fails ml_RX10_101 (As := [.int (1 : Int32)]) (t_X10_fails (d := d - 1) hl (by omega) e0) (by omega) rfl (Nat.le_of_ble_eq_true rfl) ?_
    cases h
    exact r_ireturn (dc_X10_table 26 rfl) rfl
  · rw [if_neg c0] at h
    refine r_aload_n (dc_X10_table 7 rfl) rfl rfl ?_
    refine r_iload_n (dc_X10_table 8 rfl) rfl rfl ?_
    obtain ⟨x5, e0, h⟩ := Option.bind_eq_some_iff.mp h
    refine r_callV (dc_X10_table 9 rfl) mv_X10_isSite ml_RX10_93 (As := [.int xa2]) (t_X10_isSite (d := d - 1) hl (by omega) e0) (by omega) rfl (Nat.le_of_ble_eq_true rfl) ?_
    refine r_if_eq (dc_X10_table 10 rfl) (tgt := 43) (by decide) (fun c0 => ?_) (fun c0 => ?_)
    · rw [if_pos c0] at h
      refine r_aload_n (dc_X10_table 23 rfl) rfl rfl ?_
      refine r_iconst (dc_X10_table 24 rfl) kiconst_1 ?_
      obtain ⟨x7, s6, e0, h⟩ := wb_some h
      refine r_callV (dc_X10_table 25 rfl) mv_X10_fails ml_RX10_101 (As := [.int (1 : Int32)]) (t_X10_fails (d := d - 1) hl (by omega) e0) (by omega) rfl (Nat.le_of_ble_eq_true rfl) ?_
      cases h
      exact r_ireturn (dc_X10_table 26 rfl) rfl
    · rw [if_neg c0] at h
      refine r_aload_n (dc_X10_table 11 rfl) rfl rfl ?_
      refine r_iload_n (dc_X10_table 12 rfl) rfl rfl ?_
      obtain ⟨x8, e0, h⟩ := Option.bind_eq_some_iff.mp h
      refine r_callV (dc_X10_table 13 rfl) mv_X10_isSite ml_RX10_93 (As := [.int xa3]) (t_X10_isSite (d := d - 1) hl (by omega) e0) (by omega) rfl (Nat.le_of_ble_eq_true rfl) ?_
      refine r_if_eq (dc_X10_table 14 rfl) (tgt := 43) (by decide) (fun c0 => ?_) (fun c0 => ?_)
      · rw [if_pos c0] at h
        refine r_aload_n (dc_X10_table 23 rfl) rfl rfl ?_
        refine r_iconst (dc_X10_table 24 rfl) kiconst_1 ?_
        obtain ⟨x10, s9, e0, h⟩ := wb_some h
        refine r_callV (dc_X10_table 25 rfl) mv_X10_fails ml_RX10_101 (As := [.int (1 : Int32)]) (t_X10_fails (d := d - 1) hl (by omega) e0) (by omega) rfl (Nat.le_of_ble_eq_true rfl) ?_
        cases h
        exact r_ireturn (dc_X10_table 26 rfl) rfl
      · rw [if_neg c0] at h
        refine r_aload_n (dc_X10_table 15 rfl) rfl rfl ?_
        obtain ⟨p11, e0, h⟩ := Option.bind_eq_some_iff.mp h
        refine r_getR (dc_X10_table 16 rfl) fl_RX10_14 e0 ?_
        refine r_iload_n (dc_X10_table 17 rfl) rfl rfl ?_
        refine r_iload_n (dc_X10_table 18 rfl) rfl rfl ?_
        refine r_iload_n (dc_X10_table 19 rfl) rfl rfl ?_
        obtain ⟨x12, e0, h⟩ := Option.bind_eq_some_iff.mp h
        refine r_callS (dc_X10_table 20 rfl) ms_X10_cellOf ml_RX10_117 (As := [.int xa1, .int xa2, .int xa3]) (t_X10_cellOf (d := d - 1) hl (by omega) e0) (by omega) rfl (Nat.le_of_ble_eq_true rfl) ?_
        obtain ⟨x13, e0, h⟩ := Option.bind_eq_some_iff.mp h
        refine r_iald (dc_X10_table 21 rfl) e0 ?_
        refine r_goto (dc_X10_table 22 rfl) (tgt := 48) (by decide) ?_
        cases h
        exact r_ireturn (dc_X10_table 26 rfl) rfl
theorem t_X10_knows {G : Gx} {d : Nat} (hl : G.1.stackTraces = false) (hd : 3 ≤ d) {σ : Sto} {a0 : Nat} {xa1 : Int32} {xa2 : Int32} {xa3 : Int32} {r : (Int32 × Sto)} (h : F_X10_knows σ a0 xa1 xa2 xa3 = some r) : Mi G d m_X10_knows 10 a0 [.int xa1, .int xa2, .int xa3] σ (.inl (some (.int r.1))) r.2 := by
  rw [F_X10_knows] at h
  obtain ⟨hg, h⟩ := chk_some h
  refine ⟨J.toMt (lo := [(0, .ref a0), (1, .int xa1), (2, .int xa2), (3, .int xa3)]) pn_RX10 rfl hl (Nat.le_of_ble_eq_true rfl) rfl ?_, hg⟩
  refine r_aload_n (dc_X10_knows 0 rfl) rfl rfl ?_
  refine r_iconst (dc_X10_knows 1 rfl) kiconst_0 ?_
  obtain ⟨s1, e0, h⟩ := Option.bind_eq_some_iff.mp h
  refine r_put (dc_X10_knows 2 rfl) pl_RX10_1 rfl e0 ?_
  refine r_aload_n (dc_X10_knows 3 rfl) rfl rfl ?_
  refine r_iconst (dc_X10_knows 4 rfl) kiconst_0 ?_
  obtain ⟨s2, e0, h⟩ := Option.bind_eq_some_iff.mp h
  refine r_put (dc_X10_knows 5 rfl) pl_RX10_59 rfl e0 ?_
  refine r_aload_n (dc_X10_knows 6 rfl) rfl rfl ?_
  refine r_iload_n (dc_X10_knows 7 rfl) rfl rfl ?_
  obtain ⟨x3, e0, h⟩ := Option.bind_eq_some_iff.mp h
  refine r_callV (dc_X10_knows 8 rfl) mv_X10_isSite ml_RX10_93 (As := [.int xa1]) (t_X10_isSite (d := d - 1) hl (by omega) e0) (by omega) rfl (Nat.le_of_ble_eq_true rfl) ?_
  refine r_if_eq (dc_X10_knows 9 rfl) (tgt := 34) (by decide) (fun c0 => ?_) (fun c0 => ?_)
  · rw [if_pos c0] at h
    refine r_aload_n (dc_X10_knows 18 rfl) rfl rfl ?_
    refine r_iconst (dc_X10_knows 19 rfl) kiconst_1 ?_
    obtain ⟨x5, s4, e0, h⟩ := wb_some h
    refine r_callV (dc_X10_knows 20 rfl) mv_X10_fails ml_RX10_101 (As := [.int (1 : Int32)]) (t_X10_fails (d := d - 1) hl (by omega) e0) (by omega) rfl (Nat.le_of_ble_eq_true rfl) ?_
    refine r_if_eq (dc_X10_knows 21 rfl) (tgt := 46) (by decide) (fun c0 => ?_) (fun c0 => ?_)
    · rw [if_pos c0] at h
      refine r_iconst (dc_X10_knows 24 rfl) kiconst_0 ?_
      cases h
      exact r_zreturn (dc_X10_knows 25 rfl) rfl (Or.inl rfl)
    · rw [if_neg c0] at h
      refine r_iconst (dc_X10_knows 22 rfl) kiconst_1 ?_
      refine r_goto (dc_X10_knows 23 rfl) (tgt := 47) (by decide) ?_
      cases h
      exact r_zreturn (dc_X10_knows 25 rfl) rfl (Or.inr rfl)
  · rw [if_neg c0] at h
    refine r_aload_n (dc_X10_knows 10 rfl) rfl rfl ?_
    refine r_iload_n (dc_X10_knows 11 rfl) rfl rfl ?_
    obtain ⟨x6, e0, h⟩ := Option.bind_eq_some_iff.mp h
    refine r_callV (dc_X10_knows 12 rfl) mv_X10_isSite ml_RX10_93 (As := [.int xa2]) (t_X10_isSite (d := d - 1) hl (by omega) e0) (by omega) rfl (Nat.le_of_ble_eq_true rfl) ?_
    refine r_if_eq (dc_X10_knows 13 rfl) (tgt := 34) (by decide) (fun c0 => ?_) (fun c0 => ?_)
    · rw [if_pos c0] at h
      refine r_aload_n (dc_X10_knows 18 rfl) rfl rfl ?_
      refine r_iconst (dc_X10_knows 19 rfl) kiconst_1 ?_
      obtain ⟨x8, s7, e0, h⟩ := wb_some h
      refine r_callV (dc_X10_knows 20 rfl) mv_X10_fails ml_RX10_101 (As := [.int (1 : Int32)]) (t_X10_fails (d := d - 1) hl (by omega) e0) (by omega) rfl (Nat.le_of_ble_eq_true rfl) ?_
      refine r_if_eq (dc_X10_knows 21 rfl) (tgt := 46) (by decide) (fun c0 => ?_) (fun c0 => ?_)
      · rw [if_pos c0] at h
        refine r_iconst (dc_X10_knows 24 rfl) kiconst_0 ?_
        cases h
        exact r_zreturn (dc_X10_knows 25 rfl) rfl (Or.inl rfl)
      · rw [if_neg c0] at h
        refine r_iconst (dc_X10_knows 22 rfl) kiconst_1 ?_
        refine r_goto (dc_X10_knows 23 rfl) (tgt := 47) (by decide) ?_
        cases h
        exact r_zreturn (dc_X10_knows 25 rfl) rfl (Or.inr rfl)
    · rw [if_neg c0] at h
      refine r_aload_n (dc_X10_knows 14 rfl) rfl rfl ?_
      refine r_iload_n (dc_X10_knows 15 rfl) rfl rfl ?_
      obtain ⟨x9, e0, h⟩ := Option.bind_eq_some_iff.mp h
      refine r_callV (dc_X10_knows 16 rfl) mv_X10_isEvent ml_RX10_156 (As := [.int xa3]) (t_X10_isEvent (d := d - 1) hl (by omega) e0) (by omega) rfl (Nat.le_of_ble_eq_true rfl) ?_
      refine r_if_ne (dc_X10_knows 17 rfl) (tgt := 48) (by decide) (fun c0 => ?_) (fun c0 => ?_)
      · rw [if_neg c0] at h
        refine r_aload_n (dc_X10_knows 26 rfl) rfl rfl ?_
        refine r_iload_n (dc_X10_knows 27 rfl) rfl rfl ?_
        refine r_iload_n (dc_X10_knows 28 rfl) rfl rfl ?_
        refine r_iload_n (dc_X10_knows 29 rfl) rfl rfl ?_
        obtain ⟨x10, e0, h⟩ := Option.bind_eq_some_iff.mp h
        refine r_callV (dc_X10_knows 30 rfl) mv_X10_isKnown ml_RX10_162 (As := [.int xa1, .int xa2, .int xa3]) (t_X10_isKnown (d := d - 1) hl (by omega) e0) (by omega) rfl (Nat.le_of_ble_eq_true rfl) ?_
        split at h
        · rename_i c0
          cases h
          exact r_zreturn (dc_X10_knows 31 rfl) rfl c0
        · cases h
      · rw [if_pos c0] at h
        refine r_aload_n (dc_X10_knows 18 rfl) rfl rfl ?_
        refine r_iconst (dc_X10_knows 19 rfl) kiconst_1 ?_
        obtain ⟨x12, s11, e0, h⟩ := wb_some h
        refine r_callV (dc_X10_knows 20 rfl) mv_X10_fails ml_RX10_101 (As := [.int (1 : Int32)]) (t_X10_fails (d := d - 1) hl (by omega) e0) (by omega) rfl (Nat.le_of_ble_eq_true rfl) ?_
        refine r_if_eq (dc_X10_knows 21 rfl) (tgt := 46) (by decide) (fun c0 => ?_) (fun c0 => ?_)
        · rw [if_pos c0] at h
          refine r_iconst (dc_X10_knows 24 rfl) kiconst_0 ?_
          cases h
          exact r_zreturn (dc_X10_knows 25 rfl) rfl (Or.inl rfl)
        · rw [if_neg c0] at h
          refine r_iconst (dc_X10_knows 22 rfl) kiconst_1 ?_
          refine r_goto (dc_X10_knows 23 rfl) (tgt := 47) (by decide) ?_
          cases h
          exact r_zreturn (dc_X10_knows 25 rfl) rfl (Or.inr rfl)
theorem t_X10_has {G : Gx} {d : Nat} (hl : G.1.stackTraces = false) (hd : 3 ≤ d) {σ : Sto} {a0 : Nat} {xa1 : Int32} {xa2 : Int32} {r : (Int32 × Sto)} (h : F_X10_has σ a0 xa1 xa2 = some r) : Mi G d m_X10_has 10 a0 [.int xa1, .int xa2] σ (.inl (some (.int r.1))) r.2 := by
  rw [F_X10_has] at h
  obtain ⟨hg, h⟩ := chk_some h
  refine ⟨J.toMt (lo := [(0, .ref a0), (1, .int xa1), (2, .int xa2)]) pn_RX10 rfl hl (Nat.le_of_ble_eq_true rfl) rfl ?_, hg⟩
  refine r_aload_n (dc_X10_has 0 rfl) rfl rfl ?_
  refine r_iconst (dc_X10_has 1 rfl) kiconst_0 ?_
  obtain ⟨s1, e0, h⟩ := Option.bind_eq_some_iff.mp h
  refine r_put (dc_X10_has 2 rfl) pl_RX10_1 rfl e0 ?_
  refine r_aload_n (dc_X10_has 3 rfl) rfl rfl ?_
  refine r_iconst (dc_X10_has 4 rfl) kiconst_0 ?_
  obtain ⟨s2, e0, h⟩ := Option.bind_eq_some_iff.mp h
  refine r_put (dc_X10_has 5 rfl) pl_RX10_59 rfl e0 ?_
  refine r_aload_n (dc_X10_has 6 rfl) rfl rfl ?_
  refine r_iload_n (dc_X10_has 7 rfl) rfl rfl ?_
  obtain ⟨x3, e0, h⟩ := Option.bind_eq_some_iff.mp h
  refine r_callV (dc_X10_has 8 rfl) mv_X10_isSite ml_RX10_93 (As := [.int xa1]) (t_X10_isSite (d := d - 1) hl (by omega) e0) (by omega) rfl (Nat.le_of_ble_eq_true rfl) ?_
  refine r_if_eq (dc_X10_has 9 rfl) (tgt := 26) (by decide) (fun c0 => ?_) (fun c0 => ?_)
  · rw [if_pos c0] at h
    refine r_aload_n (dc_X10_has 14 rfl) rfl rfl ?_
    refine r_iconst (dc_X10_has 15 rfl) kiconst_1 ?_
    obtain ⟨x5, s4, e0, h⟩ := wb_some h
    refine r_callV (dc_X10_has 16 rfl) mv_X10_fails ml_RX10_101 (As := [.int (1 : Int32)]) (t_X10_fails (d := d - 1) hl (by omega) e0) (by omega) rfl (Nat.le_of_ble_eq_true rfl) ?_
    refine r_if_eq (dc_X10_has 17 rfl) (tgt := 38) (by decide) (fun c0 => ?_) (fun c0 => ?_)
    · rw [if_pos c0] at h
      refine r_iconst (dc_X10_has 20 rfl) kiconst_0 ?_
      cases h
      exact r_zreturn (dc_X10_has 21 rfl) rfl (Or.inl rfl)
    · rw [if_neg c0] at h
      refine r_iconst (dc_X10_has 18 rfl) kiconst_1 ?_
      refine r_goto (dc_X10_has 19 rfl) (tgt := 39) (by decide) ?_
      cases h
      exact r_zreturn (dc_X10_has 21 rfl) rfl (Or.inr rfl)
  · rw [if_neg c0] at h
    refine r_aload_n (dc_X10_has 10 rfl) rfl rfl ?_
    refine r_iload_n (dc_X10_has 11 rfl) rfl rfl ?_
    obtain ⟨x6, e0, h⟩ := Option.bind_eq_some_iff.mp h
    refine r_callV (dc_X10_has 12 rfl) mv_X10_isEvent ml_RX10_156 (As := [.int xa2]) (t_X10_isEvent (d := d - 1) hl (by omega) e0) (by omega) rfl (Nat.le_of_ble_eq_true rfl) ?_
    refine r_if_ne (dc_X10_has 13 rfl) (tgt := 40) (by decide) (fun c0 => ?_) (fun c0 => ?_)
    · rw [if_neg c0] at h
      refine r_aload_n (dc_X10_has 22 rfl) rfl rfl ?_
      refine r_iload_n (dc_X10_has 23 rfl) rfl rfl ?_
      refine r_iload_n (dc_X10_has 24 rfl) rfl rfl ?_
      refine r_iconst (dc_X10_has 25 rfl) kiconst_1 ?_
      obtain ⟨x7, e0, h⟩ := Option.bind_eq_some_iff.mp h
      refine r_callV (dc_X10_has 26 rfl) mv_X10_doesHave ml_RX10_226 (As := [.int xa1, .int xa2, .int (1 : Int32)]) (t_X10_doesHave (d := d - 1) hl (by omega) e0) (by omega) rfl (Nat.le_of_ble_eq_true rfl) ?_
      split at h
      · rename_i c0
        cases h
        exact r_zreturn (dc_X10_has 27 rfl) rfl c0
      · cases h
    · rw [if_pos c0] at h
      refine r_aload_n (dc_X10_has 14 rfl) rfl rfl ?_
      refine r_iconst (dc_X10_has 15 rfl) kiconst_1 ?_
      obtain ⟨x9, s8, e0, h⟩ := wb_some h
      refine r_callV (dc_X10_has 16 rfl) mv_X10_fails ml_RX10_101 (As := [.int (1 : Int32)]) (t_X10_fails (d := d - 1) hl (by omega) e0) (by omega) rfl (Nat.le_of_ble_eq_true rfl) ?_
      refine r_if_eq (dc_X10_has 17 rfl) (tgt := 38) (by decide) (fun c0 => ?_) (fun c0 => ?_)
      · rw [if_pos c0] at h
        refine r_iconst (dc_X10_has 20 rfl) kiconst_0 ?_
        cases h
        exact r_zreturn (dc_X10_has 21 rfl) rfl (Or.inl rfl)
      · rw [if_neg c0] at h
        refine r_iconst (dc_X10_has 18 rfl) kiconst_1 ?_
        refine r_goto (dc_X10_has 19 rfl) (tgt := 39) (by decide) ?_
        cases h
        exact r_zreturn (dc_X10_has 21 rfl) rfl (Or.inr rfl)
theorem l_X10_isOverstated_L15 {G : Gx} {d : Nat} (hl : G.1.stackTraces = false) (hd : 3 ≤ d) {sL : Sto} {pL0 : Nat} {xL2 : Int32} {xL3 : Int32} {xL4 : Int32} {r : Int32} {k65 : Option Int32}
    (hk65 : k65  = some r → J G d m_X10_isOverstated 65 [] [] sL (.inl (some (.int r))) sL)
  : ∀ (f : Nat) (xL5 : Int32), F_X10_isOverstated_L15 sL pL0 xL2 xL3 xL4 f xL5 k65 = some r → J G d m_X10_isOverstated 15 [(0, .ref pL0), (2, .int xL2), (3, .int xL3), (4, .int xL4), (5, .int xL5)] [] sL (.inl (some (.int r))) sL := by
  intro f
  induction f with
  | zero => intro xL5 h; rw [F_X10_isOverstated_L15] at h; cases h
  | succ f ih =>
    intro xL5 h
    rw [F_X10_isOverstated_L15] at h
    refine r_iload (dc_X10_isOverstated 9 rfl) rfl ?_
    refine r_aload_n (dc_X10_isOverstated 10 rfl) rfl rfl ?_
    refine r_iconst (dc_X10_isOverstated 11 rfl) kiconst_2 ?_
    obtain ⟨x3, e0, h⟩ := Option.bind_eq_some_iff.mp h
    refine r_callV (dc_X10_isOverstated 12 rfl) mv_X10_of ml_RX10_62 (As := [.int (2 : Int32)]) (t_X10_of (d := d - 1) hl (by omega) e0) (by omega) rfl (Nat.le_of_ble_eq_true rfl) ?_
    refine r_icmp_ge (dc_X10_isOverstated 13 rfl) (tgt := 65) (by decide) (fun c0 => ?_) (fun c0 => ?_)
    · rw [if_pos c0] at h
      refine r_pick [] (lo' := []) rfl ?_
      exact hk65  h
    · rw [if_neg c0] at h
      refine r_aload_n (dc_X10_isOverstated 14 rfl) rfl rfl ?_
      refine r_iload (dc_X10_isOverstated 15 rfl) rfl ?_
      obtain ⟨x4, e0, h⟩ := Option.bind_eq_some_iff.mp h
      refine r_callV (dc_X10_isOverstated 16 rfl) mv_X10_siteOf ml_RX10_114 (As := [.int xL5]) (t_X10_siteOf (d := d - 1) hl (by omega) e0) (by omega) rfl (Nat.le_of_ble_eq_true rfl) ?_
      refine r_iload_n (dc_X10_isOverstated 17 rfl) rfl rfl ?_
      refine r_icmp_ne (dc_X10_isOverstated 18 rfl) (tgt := 59) (by decide) (fun c0 => ?_) (fun c0 => ?_)
      · rw [if_neg c0] at h
        refine r_iinc (dc_X10_isOverstated 32 rfl) rfl (kinc_1 _) (by decide) (lo' := [(5, .int (xL5 + (1 : Int32))), (0, .ref pL0), (2, .int xL2), (3, .int xL3), (4, .int xL4)]) rfl ?_
        refine r_goto (dc_X10_isOverstated 33 rfl) (tgt := 15) (by decide) ?_
        refine r_pick [1, 2, 3, 4, 0] (lo' := [(0, .ref pL0), (2, .int xL2), (3, .int xL3), (4, .int xL4), (5, .int (xL5 + (1 : Int32)))]) rfl ?_
        exact ih _ h
      · rw [if_pos c0] at h
        refine r_aload_n (dc_X10_isOverstated 19 rfl) rfl rfl ?_
        refine r_iload (dc_X10_isOverstated 20 rfl) rfl ?_
        obtain ⟨x5, e0, h⟩ := Option.bind_eq_some_iff.mp h
        refine r_callV (dc_X10_isOverstated 21 rfl) mv_X10_timeOf ml_RX10_121 (As := [.int xL5]) (t_X10_timeOf (d := d - 1) hl (by omega) e0) (by omega) rfl (Nat.le_of_ble_eq_true rfl) ?_
        refine r_iload (dc_X10_isOverstated 22 rfl) rfl ?_
        refine r_icmp_gt (dc_X10_isOverstated 23 rfl) (tgt := 59) (by decide) (fun c0 => ?_) (fun c0 => ?_)
        · rw [if_pos c0] at h
          refine r_iinc (dc_X10_isOverstated 32 rfl) rfl (kinc_1 _) (by decide) (lo' := [(5, .int (xL5 + (1 : Int32))), (0, .ref pL0), (2, .int xL2), (3, .int xL3), (4, .int xL4)]) rfl ?_
          refine r_goto (dc_X10_isOverstated 33 rfl) (tgt := 15) (by decide) ?_
          refine r_pick [1, 2, 3, 4, 0] (lo' := [(0, .ref pL0), (2, .int xL2), (3, .int xL3), (4, .int xL4), (5, .int (xL5 + (1 : Int32)))]) rfl ?_
          exact ih _ h
        · rw [if_neg c0] at h
          refine r_aload_n (dc_X10_isOverstated 24 rfl) rfl rfl ?_
          refine r_iload_n (dc_X10_isOverstated 25 rfl) rfl rfl ?_
          refine r_iload (dc_X10_isOverstated 26 rfl) rfl ?_
          refine r_iconst (dc_X10_isOverstated 27 rfl) kiconst_0 ?_
          obtain ⟨x6, e0, h⟩ := Option.bind_eq_some_iff.mp h
          refine r_callV (dc_X10_isOverstated 28 rfl) mv_X10_doesHave ml_RX10_226 (As := [.int xL2, .int xL5, .int (0 : Int32)]) (t_X10_doesHave (d := d - 1) hl (by omega) e0) (by omega) rfl (Nat.le_of_ble_eq_true rfl) ?_
          refine r_if_eq (dc_X10_isOverstated 29 rfl) (tgt := 59) (by decide) (fun c0 => ?_) (fun c0 => ?_)
          · rw [if_pos c0] at h
            refine r_iinc (dc_X10_isOverstated 32 rfl) rfl (kinc_1 _) (by decide) (lo' := [(5, .int (xL5 + (1 : Int32))), (0, .ref pL0), (2, .int xL2), (3, .int xL3), (4, .int xL4)]) rfl ?_
            refine r_goto (dc_X10_isOverstated 33 rfl) (tgt := 15) (by decide) ?_
            refine r_pick [1, 2, 3, 4, 0] (lo' := [(0, .ref pL0), (2, .int xL2), (3, .int xL3), (4, .int xL4), (5, .int (xL5 + (1 : Int32)))]) rfl ?_
            exact ih _ h
          · rw [if_neg c0] at h
            refine r_iconst (dc_X10_isOverstated 30 rfl) kiconst_1 ?_
            cases h
            exact r_zreturn (dc_X10_isOverstated 31 rfl) rfl (Or.inr rfl)
theorem t_X10_isOverstated {G : Gx} {d : Nat} (hl : G.1.stackTraces = false) (hd : 3 ≤ d) {σ : Sto} {a0 : Nat} {xa1 : Int32} {xa2 : Int32} {xa3 : Int32} {r : Int32} (h : F_X10_isOverstated σ a0 xa1 xa2 xa3 = some r) : Mi G d m_X10_isOverstated 10 a0 [.int xa1, .int xa2, .int xa3] σ (.inl (some (.int r))) σ := by
  rw [F_X10_isOverstated] at h
  obtain ⟨hg, h⟩ := chk_some h
  refine ⟨J.toMt (lo := [(0, .ref a0), (1, .int xa1), (2, .int xa2), (3, .int xa3)]) pn_RX10 rfl hl (Nat.le_of_ble_eq_true rfl) rfl ?_, hg⟩
  refine r_aload_n (dc_X10_isOverstated 0 rfl) rfl rfl ?_
  refine r_iload_n (dc_X10_isOverstated 1 rfl) rfl rfl ?_
  refine r_iload_n (dc_X10_isOverstated 2 rfl) rfl rfl ?_
  refine r_iload_n (dc_X10_isOverstated 3 rfl) rfl rfl ?_
  obtain ⟨x1, e0, h⟩ := Option.bind_eq_some_iff.mp h
  refine r_callS (dc_X10_isOverstated 4 rfl) ms_X10_cellOf ml_RX10_117 (As := [.int xa1, .int xa2, .int xa3]) (t_X10_cellOf (d := d - 1) hl (by omega) e0) (by omega) rfl (Nat.le_of_ble_eq_true rfl) ?_
  obtain ⟨x2, e0, h⟩ := Option.bind_eq_some_iff.mp h
  refine r_callV (dc_X10_isOverstated 5 rfl) mv_X10_of ml_RX10_62 (As := [.int x1]) (t_X10_of (d := d - 1) hl (by omega) e0) (by omega) rfl (Nat.le_of_ble_eq_true rfl) ?_
  refine r_istore (dc_X10_isOverstated 6 rfl) (by decide) (lo' := [(4, .int x2), (0, .ref a0), (1, .int xa1), (2, .int xa2), (3, .int xa3)]) rfl ?_
  refine r_iconst (dc_X10_isOverstated 7 rfl) kiconst_0 ?_
  refine r_istore (dc_X10_isOverstated 8 rfl) (by decide) (lo' := [(5, .int (0 : Int32)), (4, .int x2), (0, .ref a0), (1, .int xa1), (2, .int xa2), (3, .int xa3)]) rfl ?_
  refine r_pick [2, 4, 5, 1, 0] (lo' := [(0, .ref a0), (2, .int xa2), (3, .int xa3), (4, .int x2), (5, .int (0 : Int32))]) rfl ?_
  refine l_X10_isOverstated_L15 hl hd (hk65 := ?_) fu _ h
  · intro h
    refine r_iconst (dc_X10_isOverstated 34 rfl) kiconst_0 ?_
    cases h
    exact r_zreturn (dc_X10_isOverstated 35 rfl) rfl (Or.inl rfl)
theorem l_X10_overstatedOf_L16 {G : Gx} {d : Nat} (hl : G.1.stackTraces = false) (hd : 4 ≤ d) {sL : Sto} {pL0 : Nat} {xL1 : Int32} {xL3 : Int32} {r : Int32} {k46 : Int32 → Option Int32}
    (hk46 : ∀ (xL2 : Int32), k46 xL2 = some r → J G d m_X10_overstatedOf 46 [(0, .ref pL0), (1, .int xL1), (2, .int xL2), (3, .int xL3)] [] sL (.inl (some (.int r))) sL)
  : ∀ (f : Nat) (xL2 : Int32) (xL4 : Int32), F_X10_overstatedOf_L16 sL pL0 xL1 xL3 f xL2 xL4 k46 = some r → J G d m_X10_overstatedOf 16 [(0, .ref pL0), (1, .int xL1), (2, .int xL2), (3, .int xL3), (4, .int xL4)] [] sL (.inl (some (.int r))) sL := by
  intro f
  induction f with
  | zero => intro xL2 xL4 h; rw [F_X10_overstatedOf_L16] at h; cases h
  | succ f ih =>
    intro xL2 xL4 h
    rw [F_X10_overstatedOf_L16] at h
    refine r_iload (dc_X10_overstatedOf 11 rfl) rfl ?_
    refine r_aload_n (dc_X10_overstatedOf 12 rfl) rfl rfl ?_
    refine r_iconst (dc_X10_overstatedOf 13 rfl) kiconst_0 ?_
    obtain ⟨x2, e0, h⟩ := Option.bind_eq_some_iff.mp h
    refine r_callV (dc_X10_overstatedOf 14 rfl) mv_X10_of ml_RX10_62 (As := [.int (0 : Int32)]) (t_X10_of (d := d - 1) hl (by omega) e0) (by omega) rfl (Nat.le_of_ble_eq_true rfl) ?_
    refine r_icmp_ge (dc_X10_overstatedOf 15 rfl) (tgt := 46) (by decide) (fun c0 => ?_) (fun c0 => ?_)
    · rw [if_pos c0] at h
      refine r_pick [0, 1, 2, 3] (lo' := [(0, .ref pL0), (1, .int xL1), (2, .int xL2), (3, .int xL3)]) rfl ?_
      exact hk46 _ h
    · rw [if_neg c0] at h
      refine r_iload_n (dc_X10_overstatedOf 16 rfl) rfl rfl ?_
      refine r_aload_n (dc_X10_overstatedOf 17 rfl) rfl rfl ?_
      refine r_iload_n (dc_X10_overstatedOf 18 rfl) rfl rfl ?_
      refine r_iload_n (dc_X10_overstatedOf 19 rfl) rfl rfl ?_
      refine r_iload (dc_X10_overstatedOf 20 rfl) rfl ?_
      obtain ⟨x3, e0, h⟩ := Option.bind_eq_some_iff.mp h
      refine r_callV (dc_X10_overstatedOf 21 rfl) mv_X10_isOverstated ml_RX10_275 (As := [.int xL1, .int xL3, .int xL4]) (t_X10_isOverstated (d := d - 1) hl (by omega) e0) (by omega) rfl (Nat.le_of_ble_eq_true rfl) ?_
      obtain ⟨x4, e0, h⟩ := Option.bind_eq_some_iff.mp h
      refine r_callS (dc_X10_overstatedOf 22 rfl) ms_X10_flag ml_RX10_74 (As := [.int x3]) (t_X10_flag (d := d - 1) hl (by omega) e0) (by omega) rfl (Nat.le_of_ble_eq_true rfl) ?_
      refine r_iadd (dc_X10_overstatedOf 23 rfl) ?_
      refine r_istore_n (dc_X10_overstatedOf 24 rfl) rfl (by decide) (lo' := [(2, .int (xL2 + x4)), (0, .ref pL0), (1, .int xL1), (3, .int xL3), (4, .int xL4)]) rfl ?_
      refine r_iinc (dc_X10_overstatedOf 25 rfl) rfl (kinc_1 _) (by decide) (lo' := [(4, .int (xL4 + (1 : Int32))), (2, .int (xL2 + x4)), (0, .ref pL0), (1, .int xL1), (3, .int xL3)]) rfl ?_
      refine r_goto (dc_X10_overstatedOf 26 rfl) (tgt := 16) (by decide) ?_
      refine r_pick [2, 3, 1, 4, 0] (lo' := [(0, .ref pL0), (1, .int xL1), (2, .int (xL2 + x4)), (3, .int xL3), (4, .int (xL4 + (1 : Int32)))]) rfl ?_
      exact ih _ _ h
theorem l_X10_overstatedOf_L4 {G : Gx} {d : Nat} (hl : G.1.stackTraces = false) (hd : 4 ≤ d) {sL : Sto} {pL0 : Nat} {xL1 : Int32} {r : Int32} {k52 : Int32 → Option Int32}
    (hk52 : ∀ (xL2 : Int32), k52 xL2 = some r → J G d m_X10_overstatedOf 52 [(2, .int xL2)] [] sL (.inl (some (.int r))) sL)
  : ∀ (f : Nat) (xL2 : Int32) (xL3 : Int32), F_X10_overstatedOf_L4 sL pL0 xL1 f xL2 xL3 k52 = some r → J G d m_X10_overstatedOf 4 [(0, .ref pL0), (1, .int xL1), (2, .int xL2), (3, .int xL3)] [] sL (.inl (some (.int r))) sL := by
  intro f
  induction f with
  | zero => intro xL2 xL3 h; rw [F_X10_overstatedOf_L4] at h; cases h
  | succ f ih =>
    intro xL2 xL3 h
    rw [F_X10_overstatedOf_L4] at h
    refine r_iload_n (dc_X10_overstatedOf 4 rfl) rfl rfl ?_
    refine r_aload_n (dc_X10_overstatedOf 5 rfl) rfl rfl ?_
    refine r_iconst (dc_X10_overstatedOf 6 rfl) kiconst_0 ?_
    obtain ⟨x1, e0, h⟩ := Option.bind_eq_some_iff.mp h
    refine r_callV (dc_X10_overstatedOf 7 rfl) mv_X10_of ml_RX10_62 (As := [.int (0 : Int32)]) (t_X10_of (d := d - 1) hl (by omega) e0) (by omega) rfl (Nat.le_of_ble_eq_true rfl) ?_
    refine r_icmp_ge (dc_X10_overstatedOf 8 rfl) (tgt := 52) (by decide) (fun c0 => ?_) (fun c0 => ?_)
    · rw [if_pos c0] at h
      refine r_pick [2] (lo' := [(2, .int xL2)]) rfl ?_
      exact hk52 _ h
    · rw [if_neg c0] at h
      refine r_iconst (dc_X10_overstatedOf 9 rfl) kiconst_0 ?_
      refine r_istore (dc_X10_overstatedOf 10 rfl) (by decide) (lo' := [(4, .int (0 : Int32)), (0, .ref pL0), (1, .int xL1), (2, .int xL2), (3, .int xL3)]) rfl ?_
      refine r_pick [1, 2, 3, 4, 0] (lo' := [(0, .ref pL0), (1, .int xL1), (2, .int xL2), (3, .int xL3), (4, .int (0 : Int32))]) rfl ?_
      refine l_X10_overstatedOf_L16 hl hd (hk46 := ?_) fu _ _ h
      · intro x5 h
        refine r_iinc (dc_X10_overstatedOf 27 rfl) rfl (kinc_1 _) (by decide) (lo' := [(3, .int (xL3 + (1 : Int32))), (0, .ref pL0), (1, .int xL1), (2, .int x5)]) rfl ?_
        refine r_goto (dc_X10_overstatedOf 28 rfl) (tgt := 4) (by decide) ?_
        refine r_pick [1, 2, 3, 0] (lo' := [(0, .ref pL0), (1, .int xL1), (2, .int x5), (3, .int (xL3 + (1 : Int32)))]) rfl ?_
        exact ih _ _ h
theorem t_X10_overstatedOf {G : Gx} {d : Nat} (hl : G.1.stackTraces = false) (hd : 4 ≤ d) {σ : Sto} {a0 : Nat} {xa1 : Int32} {r : Int32} (h : F_X10_overstatedOf σ a0 xa1 = some r) : Mi G d m_X10_overstatedOf 10 a0 [.int xa1] σ (.inl (some (.int r))) σ := by
  rw [F_X10_overstatedOf] at h
  obtain ⟨hg, h⟩ := chk_some h
  refine ⟨J.toMt (lo := [(0, .ref a0), (1, .int xa1)]) pn_RX10 rfl hl (Nat.le_of_ble_eq_true rfl) rfl ?_, hg⟩
  refine r_iconst (dc_X10_overstatedOf 0 rfl) kiconst_0 ?_
  refine r_istore_n (dc_X10_overstatedOf 1 rfl) rfl (by decide) (lo' := [(2, .int (0 : Int32)), (0, .ref a0), (1, .int xa1)]) rfl ?_
  refine r_iconst (dc_X10_overstatedOf 2 rfl) kiconst_0 ?_
  refine r_istore_n (dc_X10_overstatedOf 3 rfl) rfl (by decide) (lo' := [(3, .int (0 : Int32)), (2, .int (0 : Int32)), (0, .ref a0), (1, .int xa1)]) rfl ?_
  refine r_pick [2, 3, 1, 0] (lo' := [(0, .ref a0), (1, .int xa1), (2, .int (0 : Int32)), (3, .int (0 : Int32))]) rfl ?_
  refine l_X10_overstatedOf_L4 hl hd (hk52 := ?_) fu _ _ h
  · intro x6 h
    refine r_iload_n (dc_X10_overstatedOf 29 rfl) rfl rfl ?_
    cases h
    exact r_ireturn (dc_X10_overstatedOf 30 rfl) rfl
theorem l_X10_overstatedAll_L4 {G : Gx} {d : Nat} (hl : G.1.stackTraces = false) (hd : 5 ≤ d) {sL : Sto} {pL0 : Nat} {r : Int32} {k27 : Int32 → Option Int32}
    (hk27 : ∀ (xL1 : Int32), k27 xL1 = some r → J G d m_X10_overstatedAll 27 [(1, .int xL1)] [] sL (.inl (some (.int r))) sL)
  : ∀ (f : Nat) (xL1 : Int32) (xL2 : Int32), F_X10_overstatedAll_L4 sL pL0 f xL1 xL2 k27 = some r → J G d m_X10_overstatedAll 4 [(0, .ref pL0), (1, .int xL1), (2, .int xL2)] [] sL (.inl (some (.int r))) sL := by
  intro f
  induction f with
  | zero => intro xL1 xL2 h; rw [F_X10_overstatedAll_L4] at h; cases h
  | succ f ih =>
    intro xL1 xL2 h
    rw [F_X10_overstatedAll_L4] at h
    refine r_iload_n (dc_X10_overstatedAll 4 rfl) rfl rfl ?_
    refine r_aload_n (dc_X10_overstatedAll 5 rfl) rfl rfl ?_
    refine r_iconst (dc_X10_overstatedAll 6 rfl) kiconst_0 ?_
    obtain ⟨x1, e0, h⟩ := Option.bind_eq_some_iff.mp h
    refine r_callV (dc_X10_overstatedAll 7 rfl) mv_X10_of ml_RX10_62 (As := [.int (0 : Int32)]) (t_X10_of (d := d - 1) hl (by omega) e0) (by omega) rfl (Nat.le_of_ble_eq_true rfl) ?_
    refine r_icmp_ge (dc_X10_overstatedAll 8 rfl) (tgt := 27) (by decide) (fun c0 => ?_) (fun c0 => ?_)
    · rw [if_pos c0] at h
      refine r_pick [1] (lo' := [(1, .int xL1)]) rfl ?_
      exact hk27 _ h
    · rw [if_neg c0] at h
      refine r_iload_n (dc_X10_overstatedAll 9 rfl) rfl rfl ?_
      refine r_aload_n (dc_X10_overstatedAll 10 rfl) rfl rfl ?_
      refine r_iload_n (dc_X10_overstatedAll 11 rfl) rfl rfl ?_
      obtain ⟨x2, e0, h⟩ := Option.bind_eq_some_iff.mp h
      refine r_callV (dc_X10_overstatedAll 12 rfl) mv_X10_overstatedOf ml_RX10_278 (As := [.int xL2]) (t_X10_overstatedOf (d := d - 1) hl (by omega) e0) (by omega) rfl (Nat.le_of_ble_eq_true rfl) ?_
      refine r_iadd (dc_X10_overstatedAll 13 rfl) ?_
      refine r_istore_n (dc_X10_overstatedAll 14 rfl) rfl (by decide) (lo' := [(1, .int (xL1 + x2)), (0, .ref pL0), (2, .int xL2)]) rfl ?_
      refine r_iinc (dc_X10_overstatedAll 15 rfl) rfl (kinc_1 _) (by decide) (lo' := [(2, .int (xL2 + (1 : Int32))), (1, .int (xL1 + x2)), (0, .ref pL0)]) rfl ?_
      refine r_goto (dc_X10_overstatedAll 16 rfl) (tgt := 4) (by decide) ?_
      refine r_pick [2, 1, 0] (lo' := [(0, .ref pL0), (1, .int (xL1 + x2)), (2, .int (xL2 + (1 : Int32)))]) rfl ?_
      exact ih _ _ h
theorem t_X10_overstatedAll {G : Gx} {d : Nat} (hl : G.1.stackTraces = false) (hd : 5 ≤ d) {σ : Sto} {a0 : Nat} {r : Int32} (h : F_X10_overstatedAll σ a0 = some r) : Mi G d m_X10_overstatedAll 10 a0 [] σ (.inl (some (.int r))) σ := by
  rw [F_X10_overstatedAll] at h
  obtain ⟨hg, h⟩ := chk_some h
  refine ⟨J.toMt (lo := [(0, .ref a0)]) pn_RX10 rfl hl (Nat.le_of_ble_eq_true rfl) rfl ?_, hg⟩
  refine r_iconst (dc_X10_overstatedAll 0 rfl) kiconst_0 ?_
  refine r_istore_n (dc_X10_overstatedAll 1 rfl) rfl (by decide) (lo' := [(1, .int (0 : Int32)), (0, .ref a0)]) rfl ?_
  refine r_iconst (dc_X10_overstatedAll 2 rfl) kiconst_0 ?_
  refine r_istore_n (dc_X10_overstatedAll 3 rfl) rfl (by decide) (lo' := [(2, .int (0 : Int32)), (1, .int (0 : Int32)), (0, .ref a0)]) rfl ?_
  refine r_pick [2, 1, 0] (lo' := [(0, .ref a0), (1, .int (0 : Int32)), (2, .int (0 : Int32))]) rfl ?_
  refine l_X10_overstatedAll_L4 hl hd (hk27 := ?_) fu _ _ h
  · intro x3 h
    refine r_iload_n (dc_X10_overstatedAll 17 rfl) rfl rfl ?_
    cases h
    exact r_ireturn (dc_X10_overstatedAll 18 rfl) rfl
theorem l_X10_laysLetter_L2 {G : Gx} {d : Nat} (hl : G.1.stackTraces = false) (hd : 3 ≤ d) {pL0 : Nat} {xL1 : Int32} {xL2 : Int32} {r : Sto} {k49 : Sto → Option Sto}
    (hk49 : ∀ (sL : Sto), k49 sL = some r → J G d m_X10_laysLetter 49 [] [] sL (.inl none) r)
  : ∀ (f : Nat) (xL3 : Int32) (sL : Sto), F_X10_laysLetter_L2 pL0 xL1 xL2 f xL3 sL k49 = some r → J G d m_X10_laysLetter 2 [(0, .ref pL0), (1, .int xL1), (2, .int xL2), (3, .int xL3)] [] sL (.inl none) r := by
  intro f
  induction f with
  | zero => intro xL3 sL h; rw [F_X10_laysLetter_L2] at h; cases h
  | succ f ih =>
    intro xL3 sL h
    rw [F_X10_laysLetter_L2] at h
    refine r_iload_n (dc_X10_laysLetter 2 rfl) rfl rfl ?_
    refine r_aload_n (dc_X10_laysLetter 3 rfl) rfl rfl ?_
    refine r_iload_n (dc_X10_laysLetter 4 rfl) rfl rfl ?_
    refine r_iconst (dc_X10_laysLetter 5 rfl) kiconst_1 ?_
    refine r_iadd (dc_X10_laysLetter 6 rfl) ?_
    obtain ⟨x1, e0, h⟩ := Option.bind_eq_some_iff.mp h
    refine r_callV (dc_X10_laysLetter 7 rfl) mv_X10_of ml_RX10_62 (As := [.int (xL1 + (1 : Int32))]) (t_X10_of (d := d - 1) hl (by omega) e0) (by omega) rfl (Nat.le_of_ble_eq_true rfl) ?_
    refine r_icmp_ge (dc_X10_laysLetter 8 rfl) (tgt := 49) (by decide) (fun c0 => ?_) (fun c0 => ?_)
    · rw [if_pos c0] at h
      refine r_pick [] (lo' := []) rfl ?_
      exact hk49 _ h
    · rw [if_neg c0] at h
      refine r_aload_n (dc_X10_laysLetter 9 rfl) rfl rfl ?_
      refine r_iload_n (dc_X10_laysLetter 10 rfl) rfl rfl ?_
      refine r_iconst (dc_X10_laysLetter 11 rfl) kiconst_2 ?_
      refine r_iadd (dc_X10_laysLetter 12 rfl) ?_
      refine r_iload_n (dc_X10_laysLetter 13 rfl) rfl rfl ?_
      refine r_iadd (dc_X10_laysLetter 14 rfl) ?_
      obtain ⟨x2, e0, h⟩ := Option.bind_eq_some_iff.mp h
      refine r_callV (dc_X10_laysLetter 15 rfl) mv_X10_of ml_RX10_62 (As := [.int ((xL1 + (2 : Int32)) + xL3)]) (t_X10_of (d := d - 1) hl (by omega) e0) (by omega) rfl (Nat.le_of_ble_eq_true rfl) ?_
      refine r_istore (dc_X10_laysLetter 16 rfl) (by decide) (lo' := [(4, .int x2), (0, .ref pL0), (1, .int xL1), (2, .int xL2), (3, .int xL3)]) rfl ?_
      refine r_aload_n (dc_X10_laysLetter 17 rfl) rfl rfl ?_
      refine r_iload_n (dc_X10_laysLetter 18 rfl) rfl rfl ?_
      refine r_iload_n (dc_X10_laysLetter 19 rfl) rfl rfl ?_
      refine r_iload (dc_X10_laysLetter 20 rfl) rfl ?_
      obtain ⟨x3, e0, h⟩ := Option.bind_eq_some_iff.mp h
      refine r_callV (dc_X10_laysLetter 21 rfl) mv_X10_isKnown ml_RX10_162 (As := [.int xL2, .int xL2, .int x2]) (t_X10_isKnown (d := d - 1) hl (by omega) e0) (by omega) rfl (Nat.le_of_ble_eq_true rfl) ?_
      refine r_if_ne (dc_X10_laysLetter 22 rfl) (tgt := 43) (by decide) (fun c0 => ?_) (fun c0 => ?_)
      · rw [if_neg c0] at h
        refine r_iinc (dc_X10_laysLetter 28 rfl) rfl (kinc_1 _) (by decide) (lo' := [(3, .int (xL3 + (1 : Int32))), (4, .int x2), (0, .ref pL0), (1, .int xL1), (2, .int xL2)]) rfl ?_
        refine r_goto (dc_X10_laysLetter 29 rfl) (tgt := 2) (by decide) ?_
        refine r_pick [2, 3, 4, 0] (lo' := [(0, .ref pL0), (1, .int xL1), (2, .int xL2), (3, .int (xL3 + (1 : Int32)))]) rfl ?_
        exact ih _ _ h
      · rw [if_pos c0] at h
        refine r_aload_n (dc_X10_laysLetter 23 rfl) rfl rfl ?_
        obtain ⟨p4, e0, h⟩ := Option.bind_eq_some_iff.mp h
        refine r_getR (dc_X10_laysLetter 24 rfl) fl_RX10_28 e0 ?_
        refine r_iload (dc_X10_laysLetter 25 rfl) rfl ?_
        refine r_iconst (dc_X10_laysLetter 26 rfl) kiconst_1 ?_
        obtain ⟨s5, e0, h⟩ := Option.bind_eq_some_iff.mp h
        refine r_zast (dc_X10_laysLetter 27 rfl) e0 ?_
        refine r_iinc (dc_X10_laysLetter 28 rfl) rfl (kinc_1 _) (by decide) (lo' := [(3, .int (xL3 + (1 : Int32))), (4, .int x2), (0, .ref pL0), (1, .int xL1), (2, .int xL2)]) rfl ?_
        refine r_goto (dc_X10_laysLetter 29 rfl) (tgt := 2) (by decide) ?_
        refine r_pick [2, 3, 4, 0] (lo' := [(0, .ref pL0), (1, .int xL1), (2, .int xL2), (3, .int (xL3 + (1 : Int32)))]) rfl ?_
        exact ih _ _ h
theorem t_X10_laysLetter {G : Gx} {d : Nat} (hl : G.1.stackTraces = false) (hd : 3 ≤ d) {σ : Sto} {a0 : Nat} {xa1 : Int32} {xa2 : Int32} {r : Sto} (h : F_X10_laysLetter σ a0 xa1 xa2 = some r) : Mi G d m_X10_laysLetter 10 a0 [.int xa1, .int xa2] σ (.inl none) r := by
  rw [F_X10_laysLetter] at h
  obtain ⟨hg, h⟩ := chk_some h
  refine ⟨J.toMt (lo := [(0, .ref a0), (1, .int xa1), (2, .int xa2)]) pn_RX10 rfl hl (Nat.le_of_ble_eq_true rfl) rfl ?_, hg⟩
  refine r_iconst (dc_X10_laysLetter 0 rfl) kiconst_0 ?_
  refine r_istore_n (dc_X10_laysLetter 1 rfl) rfl (by decide) (lo' := [(3, .int (0 : Int32)), (0, .ref a0), (1, .int xa1), (2, .int xa2)]) rfl ?_
  refine r_pick [1, 2, 3, 0] (lo' := [(0, .ref a0), (1, .int xa1), (2, .int xa2), (3, .int (0 : Int32))]) rfl ?_
  refine l_X10_laysLetter_L2 hl hd (hk49 := ?_) fu _ _ h
  · intro s6 h
    cases h
    exact r_vreturn (dc_X10_laysLetter 30 rfl) rfl
theorem l_X10_laysReaches_L2 {G : Gx} {d : Nat} (hl : G.1.stackTraces = false) (hd : 4 ≤ d) {pL0 : Nat} {xL1 : Int32} {r : Sto} {k21 : Sto → Option Sto}
    (hk21 : ∀ (sL : Sto), k21 sL = some r → J G d m_X10_laysReaches 21 [(0, .ref pL0), (1, .int xL1)] [] sL (.inl none) r)
  : ∀ (f : Nat) (xL2 : Int32) (sL : Sto), F_X10_laysReaches_L2 pL0 f xL2 sL k21 = some r → J G d m_X10_laysReaches 2 [(0, .ref pL0), (1, .int xL1), (2, .int xL2)] [] sL (.inl none) r := by
  intro f
  induction f with
  | zero => intro xL2 sL h; rw [F_X10_laysReaches_L2] at h; cases h
  | succ f ih =>
    intro xL2 sL h
    rw [F_X10_laysReaches_L2] at h
    refine r_iload_n (dc_X10_laysReaches 2 rfl) rfl rfl ?_
    refine r_bipush (dc_X10_laysReaches 3 rfl) kbipush_120 ?_
    refine r_icmp_ge (dc_X10_laysReaches 4 rfl) (tgt := 21) (by decide) (fun c0 => ?_) (fun c0 => ?_)
    · rw [if_pos c0] at h
      refine r_pick [0, 1] (lo' := [(0, .ref pL0), (1, .int xL1)]) rfl ?_
      exact hk21 _ h
    · rw [if_neg c0] at h
      refine r_aload_n (dc_X10_laysReaches 5 rfl) rfl rfl ?_
      obtain ⟨p1, e0, h⟩ := Option.bind_eq_some_iff.mp h
      refine r_getR (dc_X10_laysReaches 6 rfl) fl_RX10_28 e0 ?_
      refine r_iload_n (dc_X10_laysReaches 7 rfl) rfl rfl ?_
      refine r_iconst (dc_X10_laysReaches 8 rfl) kiconst_0 ?_
      obtain ⟨s2, e0, h⟩ := Option.bind_eq_some_iff.mp h
      refine r_zast (dc_X10_laysReaches 9 rfl) e0 ?_
      refine r_iinc (dc_X10_laysReaches 10 rfl) rfl (kinc_1 _) (by decide) (lo' := [(2, .int (xL2 + (1 : Int32))), (0, .ref pL0), (1, .int xL1)]) rfl ?_
      refine r_goto (dc_X10_laysReaches 11 rfl) (tgt := 2) (by decide) ?_
      refine r_pick [1, 2, 0] (lo' := [(0, .ref pL0), (1, .int xL1), (2, .int (xL2 + (1 : Int32)))]) rfl ?_
      exact ih _ _ h
theorem l_X10_laysReaches_L40 {G : Gx} {d : Nat} (hl : G.1.stackTraces = false) (hd : 4 ≤ d) {pL0 : Nat} {xL1 : Int32} {xL2 : Int32} {xL3 : Int32} {r : Sto} {k96 : Sto → Option Sto}
    (hk96 : ∀ (sL : Sto), k96 sL = some r → J G d m_X10_laysReaches 96 [(0, .ref pL0), (1, .int xL1), (2, .int xL2)] [] sL (.inl none) r)
  : ∀ (f : Nat) (xL4 : Int32) (sL : Sto), F_X10_laysReaches_L40 pL0 xL1 xL2 xL3 f xL4 sL k96 = some r → J G d m_X10_laysReaches 40 [(0, .ref pL0), (1, .int xL1), (2, .int xL2), (3, .int xL3), (4, .int xL4)] [] sL (.inl none) r := by
  intro f
  induction f with
  | zero => intro xL4 sL h; rw [F_X10_laysReaches_L40] at h; cases h
  | succ f ih =>
    intro xL4 sL h
    rw [F_X10_laysReaches_L40] at h
    refine r_iload (dc_X10_laysReaches 24 rfl) rfl ?_
    refine r_aload_n (dc_X10_laysReaches 25 rfl) rfl rfl ?_
    refine r_iload_n (dc_X10_laysReaches 26 rfl) rfl rfl ?_
    refine r_bipush (dc_X10_laysReaches 27 rfl) kbipush_33 ?_
    refine r_iadd (dc_X10_laysReaches 28 rfl) ?_
    obtain ⟨x6, e0, h⟩ := Option.bind_eq_some_iff.mp h
    refine r_callV (dc_X10_laysReaches 29 rfl) mv_X10_of ml_RX10_62 (As := [.int (xL3 + (33 : Int32))]) (t_X10_of (d := d - 1) hl (by omega) e0) (by omega) rfl (Nat.le_of_ble_eq_true rfl) ?_
    refine r_icmp_ge (dc_X10_laysReaches 30 rfl) (tgt := 96) (by decide) (fun c0 => ?_) (fun c0 => ?_)
    · rw [if_pos c0] at h
      refine r_pick [0, 1, 2] (lo' := [(0, .ref pL0), (1, .int xL1), (2, .int xL2)]) rfl ?_
      exact hk96 _ h
    · rw [if_neg c0] at h
      refine r_aload_n (dc_X10_laysReaches 31 rfl) rfl rfl ?_
      refine r_iload_n (dc_X10_laysReaches 32 rfl) rfl rfl ?_
      refine r_iload_n (dc_X10_laysReaches 33 rfl) rfl rfl ?_
      refine r_aload_n (dc_X10_laysReaches 34 rfl) rfl rfl ?_
      refine r_iload_n (dc_X10_laysReaches 35 rfl) rfl rfl ?_
      refine r_bipush (dc_X10_laysReaches 36 rfl) kbipush_34 ?_
      refine r_iadd (dc_X10_laysReaches 37 rfl) ?_
      refine r_iload (dc_X10_laysReaches 38 rfl) rfl ?_
      refine r_iadd (dc_X10_laysReaches 39 rfl) ?_
      obtain ⟨x7, e0, h⟩ := Option.bind_eq_some_iff.mp h
      refine r_callV (dc_X10_laysReaches 40 rfl) mv_X10_of ml_RX10_62 (As := [.int ((xL3 + (34 : Int32)) + xL4)]) (t_X10_of (d := d - 1) hl (by omega) e0) (by omega) rfl (Nat.le_of_ble_eq_true rfl) ?_
      obtain ⟨x8, e0, h⟩ := Option.bind_eq_some_iff.mp h
      refine r_callV (dc_X10_laysReaches 41 rfl) mv_X10_isKnown ml_RX10_162 (As := [.int xL2, .int xL1, .int x7]) (t_X10_isKnown (d := d - 1) hl (by omega) e0) (by omega) rfl (Nat.le_of_ble_eq_true rfl) ?_
      refine r_if_ne (dc_X10_laysReaches 42 rfl) (tgt := 90) (by decide) (fun c0 => ?_) (fun c0 => ?_)
      · rw [if_neg c0] at h
        refine r_iinc (dc_X10_laysReaches 54 rfl) rfl (kinc_1 _) (by decide) (lo' := [(4, .int (xL4 + (1 : Int32))), (0, .ref pL0), (1, .int xL1), (2, .int xL2), (3, .int xL3)]) rfl ?_
        refine r_goto (dc_X10_laysReaches 55 rfl) (tgt := 40) (by decide) ?_
        refine r_pick [1, 2, 3, 4, 0] (lo' := [(0, .ref pL0), (1, .int xL1), (2, .int xL2), (3, .int xL3), (4, .int (xL4 + (1 : Int32)))]) rfl ?_
        exact ih _ _ h
      · rw [if_pos c0] at h
        refine r_aload_n (dc_X10_laysReaches 43 rfl) rfl rfl ?_
        obtain ⟨p9, e0, h⟩ := Option.bind_eq_some_iff.mp h
        refine r_getR (dc_X10_laysReaches 44 rfl) fl_RX10_28 e0 ?_
        refine r_aload_n (dc_X10_laysReaches 45 rfl) rfl rfl ?_
        refine r_iload_n (dc_X10_laysReaches 46 rfl) rfl rfl ?_
        refine r_bipush (dc_X10_laysReaches 47 rfl) kbipush_34 ?_
        refine r_iadd (dc_X10_laysReaches 48 rfl) ?_
        refine r_iload (dc_X10_laysReaches 49 rfl) rfl ?_
        refine r_iadd (dc_X10_laysReaches 50 rfl) ?_
        obtain ⟨x10, e0, h⟩ := Option.bind_eq_some_iff.mp h
        refine r_callV (dc_X10_laysReaches 51 rfl) mv_X10_of ml_RX10_62 (As := [.int ((xL3 + (34 : Int32)) + xL4)]) (t_X10_of (d := d - 1) hl (by omega) e0) (by omega) rfl (Nat.le_of_ble_eq_true rfl) ?_
        refine r_iconst (dc_X10_laysReaches 52 rfl) kiconst_1 ?_
        obtain ⟨s11, e0, h⟩ := Option.bind_eq_some_iff.mp h
        refine r_zast (dc_X10_laysReaches 53 rfl) e0 ?_
        refine r_iinc (dc_X10_laysReaches 54 rfl) rfl (kinc_1 _) (by decide) (lo' := [(4, .int (xL4 + (1 : Int32))), (0, .ref pL0), (1, .int xL1), (2, .int xL2), (3, .int xL3)]) rfl ?_
        refine r_goto (dc_X10_laysReaches 55 rfl) (tgt := 40) (by decide) ?_
        refine r_pick [1, 2, 3, 4, 0] (lo' := [(0, .ref pL0), (1, .int xL1), (2, .int xL2), (3, .int xL3), (4, .int (xL4 + (1 : Int32)))]) rfl ?_
        exact ih _ _ h
theorem l_X10_laysReaches_L99 {G : Gx} {d : Nat} (hl : G.1.stackTraces = false) (hd : 4 ≤ d) {pL0 : Nat} {xL1 : Int32} {xL2 : Int32} {r : Sto} {k135 : Sto → Option Sto}
    (hk135 : ∀ (sL : Sto), k135 sL = some r → J G d m_X10_laysReaches 135 [(0, .ref pL0), (1, .int xL1), (2, .int xL2)] [] sL (.inl none) r)
  : ∀ (f : Nat) (xL4 : Int32) (sL : Sto), F_X10_laysReaches_L99 pL0 xL1 xL2 f xL4 sL k135 = some r → J G d m_X10_laysReaches 99 [(0, .ref pL0), (1, .int xL1), (2, .int xL2), (4, .int xL4)] [] sL (.inl none) r := by
  intro f
  induction f with
  | zero => intro xL4 sL h; rw [F_X10_laysReaches_L99] at h; cases h
  | succ f ih =>
    intro xL4 sL h
    rw [F_X10_laysReaches_L99] at h
    refine r_iload (dc_X10_laysReaches 58 rfl) rfl ?_
    refine r_aload_n (dc_X10_laysReaches 59 rfl) rfl rfl ?_
    refine r_sipush (dc_X10_laysReaches 60 rfl) ksipush_5153 ?_
    refine r_iload_n (dc_X10_laysReaches 61 rfl) rfl rfl ?_
    refine r_iload_n (dc_X10_laysReaches 62 rfl) rfl rfl ?_
    obtain ⟨x13, e0, h⟩ := Option.bind_eq_some_iff.mp h
    refine r_callS (dc_X10_laysReaches 63 rfl) ms_X10_couple ml_RX10_78 (As := [.int xL2, .int xL1]) (t_X10_couple (d := d - 1) hl (by omega) e0) (by omega) rfl (Nat.le_of_ble_eq_true rfl) ?_
    refine r_iadd (dc_X10_laysReaches 64 rfl) ?_
    obtain ⟨x14, e0, h⟩ := Option.bind_eq_some_iff.mp h
    refine r_callV (dc_X10_laysReaches 65 rfl) mv_X10_of ml_RX10_62 (As := [.int ((5153 : Int32) + x13)]) (t_X10_of (d := d - 1) hl (by omega) e0) (by omega) rfl (Nat.le_of_ble_eq_true rfl) ?_
    refine r_icmp_ge (dc_X10_laysReaches 66 rfl) (tgt := 135) (by decide) (fun c0 => ?_) (fun c0 => ?_)
    · rw [if_pos c0] at h
      refine r_pick [0, 1, 2] (lo' := [(0, .ref pL0), (1, .int xL1), (2, .int xL2)]) rfl ?_
      exact hk135 _ h
    · rw [if_neg c0] at h
      refine r_aload_n (dc_X10_laysReaches 67 rfl) rfl rfl ?_
      refine r_iload_n (dc_X10_laysReaches 68 rfl) rfl rfl ?_
      refine r_iload_n (dc_X10_laysReaches 69 rfl) rfl rfl ?_
      refine r_iload (dc_X10_laysReaches 70 rfl) rfl ?_
      obtain ⟨x15, e0, h⟩ := Option.bind_eq_some_iff.mp h
      refine r_callS (dc_X10_laysReaches 71 rfl) ms_X10_letterOf ml_RX10_191 (As := [.int xL2, .int xL1, .int xL4]) (t_X10_letterOf (d := d - 1) hl (by omega) e0) (by omega) rfl (Nat.le_of_ble_eq_true rfl) ?_
      refine r_iload_n (dc_X10_laysReaches 72 rfl) rfl rfl ?_
      obtain ⟨s16, e0, h⟩ := Option.bind_eq_some_iff.mp h
      refine r_callV (dc_X10_laysReaches 73 rfl) mv_X10_laysLetter ml_RX10_281 (As := [.int x15, .int xL1]) (t_X10_laysLetter (d := d - 1) hl (by omega) e0) (by omega) rfl (Nat.le_of_ble_eq_true rfl) ?_
      refine r_iinc (dc_X10_laysReaches 74 rfl) rfl (kinc_1 _) (by decide) (lo' := [(4, .int (xL4 + (1 : Int32))), (0, .ref pL0), (1, .int xL1), (2, .int xL2)]) rfl ?_
      refine r_goto (dc_X10_laysReaches 75 rfl) (tgt := 99) (by decide) ?_
      refine r_pick [1, 2, 3, 0] (lo' := [(0, .ref pL0), (1, .int xL1), (2, .int xL2), (4, .int (xL4 + (1 : Int32)))]) rfl ?_
      exact ih _ _ h
theorem l_X10_laysReaches_L23 {G : Gx} {d : Nat} (hl : G.1.stackTraces = false) (hd : 4 ≤ d) {pL0 : Nat} {xL1 : Int32} {r : Sto} {k141 : Sto → Option Sto}
    (hk141 : ∀ (sL : Sto), k141 sL = some r → J G d m_X10_laysReaches 141 [] [] sL (.inl none) r)
  : ∀ (f : Nat) (xL2 : Int32) (sL : Sto), F_X10_laysReaches_L23 pL0 xL1 f xL2 sL k141 = some r → J G d m_X10_laysReaches 23 [(0, .ref pL0), (1, .int xL1), (2, .int xL2)] [] sL (.inl none) r := by
  intro f
  induction f with
  | zero => intro xL2 sL h; rw [F_X10_laysReaches_L23] at h; cases h
  | succ f ih =>
    intro xL2 sL h
    rw [F_X10_laysReaches_L23] at h
    refine r_iload_n (dc_X10_laysReaches 14 rfl) rfl rfl ?_
    refine r_aload_n (dc_X10_laysReaches 15 rfl) rfl rfl ?_
    refine r_iconst (dc_X10_laysReaches 16 rfl) kiconst_0 ?_
    obtain ⟨x4, e0, h⟩ := Option.bind_eq_some_iff.mp h
    refine r_callV (dc_X10_laysReaches 17 rfl) mv_X10_of ml_RX10_62 (As := [.int (0 : Int32)]) (t_X10_of (d := d - 1) hl (by omega) e0) (by omega) rfl (Nat.le_of_ble_eq_true rfl) ?_
    refine r_icmp_ge (dc_X10_laysReaches 18 rfl) (tgt := 141) (by decide) (fun c0 => ?_) (fun c0 => ?_)
    · rw [if_pos c0] at h
      refine r_pick [] (lo' := []) rfl ?_
      exact hk141 _ h
    · rw [if_neg c0] at h
      refine r_iload_n (dc_X10_laysReaches 19 rfl) rfl rfl ?_
      obtain ⟨x5, e0, h⟩ := Option.bind_eq_some_iff.mp h
      refine r_callS (dc_X10_laysReaches 20 rfl) ms_X10_stateOf ml_RX10_111 (As := [.int xL2]) (t_X10_stateOf (d := d - 1) hl (by omega) e0) (by omega) rfl (Nat.le_of_ble_eq_true rfl) ?_
      refine r_istore_n (dc_X10_laysReaches 21 rfl) rfl (by decide) (lo' := [(3, .int x5), (0, .ref pL0), (1, .int xL1), (2, .int xL2)]) rfl ?_
      refine r_iconst (dc_X10_laysReaches 22 rfl) kiconst_0 ?_
      refine r_istore (dc_X10_laysReaches 23 rfl) (by decide) (lo' := [(4, .int (0 : Int32)), (3, .int x5), (0, .ref pL0), (1, .int xL1), (2, .int xL2)]) rfl ?_
      refine r_pick [2, 3, 4, 1, 0] (lo' := [(0, .ref pL0), (1, .int xL1), (2, .int xL2), (3, .int x5), (4, .int (0 : Int32))]) rfl ?_
      refine l_X10_laysReaches_L40 hl hd (hk96 := ?_) fu _ _ h
      · intro s12 h
        refine r_iconst (dc_X10_laysReaches 56 rfl) kiconst_0 ?_
        refine r_istore (dc_X10_laysReaches 57 rfl) (by decide) (lo' := [(4, .int (0 : Int32)), (0, .ref pL0), (1, .int xL1), (2, .int xL2)]) rfl ?_
        refine r_pick [1, 2, 3, 0] (lo' := [(0, .ref pL0), (1, .int xL1), (2, .int xL2), (4, .int (0 : Int32))]) rfl ?_
        refine l_X10_laysReaches_L99 hl hd (hk135 := ?_) fu _ _ h
        · intro s17 h
          refine r_iinc (dc_X10_laysReaches 76 rfl) rfl (kinc_1 _) (by decide) (lo' := [(2, .int (xL2 + (1 : Int32))), (0, .ref pL0), (1, .int xL1)]) rfl ?_
          refine r_goto (dc_X10_laysReaches 77 rfl) (tgt := 23) (by decide) ?_
          refine r_pick [1, 2, 0] (lo' := [(0, .ref pL0), (1, .int xL1), (2, .int (xL2 + (1 : Int32)))]) rfl ?_
          exact ih _ _ h
theorem t_X10_laysReaches {G : Gx} {d : Nat} (hl : G.1.stackTraces = false) (hd : 4 ≤ d) {σ : Sto} {a0 : Nat} {xa1 : Int32} {r : Sto} (h : F_X10_laysReaches σ a0 xa1 = some r) : Mi G d m_X10_laysReaches 10 a0 [.int xa1] σ (.inl none) r := by
  rw [F_X10_laysReaches] at h
  obtain ⟨hg, h⟩ := chk_some h
  refine ⟨J.toMt (lo := [(0, .ref a0), (1, .int xa1)]) pn_RX10 rfl hl (Nat.le_of_ble_eq_true rfl) rfl ?_, hg⟩
  refine r_iconst (dc_X10_laysReaches 0 rfl) kiconst_0 ?_
  refine r_istore_n (dc_X10_laysReaches 1 rfl) rfl (by decide) (lo' := [(2, .int (0 : Int32)), (0, .ref a0), (1, .int xa1)]) rfl ?_
  refine r_pick [1, 2, 0] (lo' := [(0, .ref a0), (1, .int xa1), (2, .int (0 : Int32))]) rfl ?_
  refine l_X10_laysReaches_L2 hl hd (hk21 := ?_) fu _ _ h
  · intro s3 h
    refine r_iconst (dc_X10_laysReaches 12 rfl) kiconst_0 ?_
    refine r_istore_n (dc_X10_laysReaches 13 rfl) rfl (by decide) (lo' := [(2, .int (0 : Int32)), (0, .ref a0), (1, .int xa1)]) rfl ?_
    refine r_pick [1, 2, 0] (lo' := [(0, .ref a0), (1, .int xa1), (2, .int (0 : Int32))]) rfl ?_
    refine l_X10_laysReaches_L23 hl hd (hk141 := ?_) fu _ _ h
    · intro s18 h
      cases h
      exact r_vreturn (dc_X10_laysReaches 78 rfl) rfl
theorem l_X10_lostTo_L9 {G : Gx} {d : Nat} (hl : G.1.stackTraces = false) (hd : 5 ≤ d) {sL : Sto} {pL0 : Nat} {xL1 : Int32} {r : (Int32 × Sto)} {k54 : Int32 → Option (Int32 × Sto)}
    (hk54 : ∀ (xL2 : Int32), k54 xL2 = some r → J G d m_X10_lostTo 54 [(2, .int xL2)] [] sL (.inl (some (.int r.1))) r.2)
  : ∀ (f : Nat) (xL2 : Int32) (xL3 : Int32), F_X10_lostTo_L9 sL pL0 xL1 f xL2 xL3 k54 = some r → J G d m_X10_lostTo 9 [(0, .ref pL0), (1, .int xL1), (2, .int xL2), (3, .int xL3)] [] sL (.inl (some (.int r.1))) r.2 := by
  intro f
  induction f with
  | zero => intro xL2 xL3 h; rw [F_X10_lostTo_L9] at h; cases h
  | succ f ih =>
    intro xL2 xL3 h
    rw [F_X10_lostTo_L9] at h
    refine r_iload_n (dc_X10_lostTo 7 rfl) rfl rfl ?_
    refine r_aload_n (dc_X10_lostTo 8 rfl) rfl rfl ?_
    refine r_iconst (dc_X10_lostTo 9 rfl) kiconst_2 ?_
    obtain ⟨x2, e0, h⟩ := Option.bind_eq_some_iff.mp h
    refine r_callV (dc_X10_lostTo 10 rfl) mv_X10_of ml_RX10_62 (As := [.int (2 : Int32)]) (t_X10_of (d := d - 1) hl (by omega) e0) (by omega) rfl (Nat.le_of_ble_eq_true rfl) ?_
    refine r_icmp_ge (dc_X10_lostTo 11 rfl) (tgt := 54) (by decide) (fun c0 => ?_) (fun c0 => ?_)
    · rw [if_pos c0] at h
      refine r_pick [2] (lo' := [(2, .int xL2)]) rfl ?_
      exact hk54 _ h
    · rw [if_neg c0] at h
      refine r_iload_n (dc_X10_lostTo 12 rfl) rfl rfl ?_
      refine r_aload_n (dc_X10_lostTo 13 rfl) rfl rfl ?_
      obtain ⟨p3, e0, h⟩ := Option.bind_eq_some_iff.mp h
      refine r_getR (dc_X10_lostTo 14 rfl) fl_RX10_28 e0 ?_
      refine r_iload_n (dc_X10_lostTo 15 rfl) rfl rfl ?_
      obtain ⟨x4, e0, h⟩ := Option.bind_eq_some_iff.mp h
      refine r_zald (dc_X10_lostTo 16 rfl) e0 ?_
      refine jn_elim h (Q := fun (j : Int32 → Option (Int32 × Sto)) => ∀ (x6 : Int32), j x6 = some r → J G d m_X10_lostTo 43 [(0, .ref pL0), (1, .int xL1), (3, .int xL3)] [.int x6, .int xL2] sL (.inl (some (.int r.1))) r.2) ?_ (fun j5 hj5 h => ?_)
      · intro x6 h
        obtain ⟨x7, e0, h⟩ := Option.bind_eq_some_iff.mp h
        refine r_callS (dc_X10_lostTo 27 rfl) ms_X10_flag ml_RX10_74 (As := [.int x6]) (t_X10_flag (d := d - 1) hl (by omega) e0) (by omega) rfl (Nat.le_of_ble_eq_true rfl) ?_
        refine r_iadd (dc_X10_lostTo 28 rfl) ?_
        refine r_istore_n (dc_X10_lostTo 29 rfl) rfl (by decide) (lo' := [(2, .int (xL2 + x7)), (0, .ref pL0), (1, .int xL1), (3, .int xL3)]) rfl ?_
        refine r_iinc (dc_X10_lostTo 30 rfl) rfl (kinc_1 _) (by decide) (lo' := [(3, .int (xL3 + (1 : Int32))), (2, .int (xL2 + x7)), (0, .ref pL0), (1, .int xL1)]) rfl ?_
        refine r_goto (dc_X10_lostTo 31 rfl) (tgt := 9) (by decide) ?_
        refine r_pick [2, 3, 1, 0] (lo' := [(0, .ref pL0), (1, .int xL1), (2, .int (xL2 + x7)), (3, .int (xL3 + (1 : Int32)))]) rfl ?_
        exact ih _ _ h
      refine r_if_ne (dc_X10_lostTo 17 rfl) (tgt := 42) (by decide) (fun c0 => ?_) (fun c0 => ?_)
      · rw [if_neg c0] at h
        refine r_iconst (dc_X10_lostTo 26 rfl) kiconst_0 ?_
        refine r_pick [0, 1, 3] (lo' := [(0, .ref pL0), (1, .int xL1), (3, .int xL3)]) rfl ?_
        exact hj5 _ h
      · rw [if_pos c0] at h
        refine r_aload_n (dc_X10_lostTo 18 rfl) rfl rfl ?_
        refine r_iload_n (dc_X10_lostTo 19 rfl) rfl rfl ?_
        refine r_iload_n (dc_X10_lostTo 20 rfl) rfl rfl ?_
        refine r_iconst (dc_X10_lostTo 21 rfl) kiconst_0 ?_
        obtain ⟨x8, e0, h⟩ := Option.bind_eq_some_iff.mp h
        refine r_callV (dc_X10_lostTo 22 rfl) mv_X10_doesHave ml_RX10_226 (As := [.int xL1, .int xL3, .int (0 : Int32)]) (t_X10_doesHave (d := d - 1) hl (by omega) e0) (by omega) rfl (Nat.le_of_ble_eq_true rfl) ?_
        refine r_if_eq (dc_X10_lostTo 23 rfl) (tgt := 42) (by decide) (fun c0 => ?_) (fun c0 => ?_)
        · rw [if_pos c0] at h
          refine r_iconst (dc_X10_lostTo 26 rfl) kiconst_0 ?_
          refine r_pick [0, 1, 3] (lo' := [(0, .ref pL0), (1, .int xL1), (3, .int xL3)]) rfl ?_
          exact hj5 _ h
        · rw [if_neg c0] at h
          refine r_iconst (dc_X10_lostTo 24 rfl) kiconst_1 ?_
          refine r_goto (dc_X10_lostTo 25 rfl) (tgt := 43) (by decide) ?_
          refine r_pick [0, 1, 3] (lo' := [(0, .ref pL0), (1, .int xL1), (3, .int xL3)]) rfl ?_
          exact hj5 _ h
