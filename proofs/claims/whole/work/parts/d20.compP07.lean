theorem t_X8_deliver {G : Gx} {d : Nat} (hl : G.1.stackTraces = false) (hd : 4 ≤ d) {σ : Sto} {a0 : Nat} {xa1 : Int32} {xa2 : Int32} {xa3 : Int32} {r : (Int32 × Sto)} (h : F_X8_deliver σ a0 xa1 xa2 xa3 = some r) : Mi G d m_X8_deliver 8 a0 [.int xa1, .int xa2, .int xa3] σ (.inl (some (.int r.1))) r.2 := by
  rw [F_X8_deliver] at h
  obtain ⟨hg, h⟩ := chk_some h
  refine ⟨J.toMt (lo := [(0, .ref a0), (1, .int xa1), (2, .int xa2), (3, .int xa3)]) pn_RX8 rfl hl (Nat.le_of_ble_eq_true rfl) rfl ?_, hg⟩
  refine r_aload_n (dc_X8_deliver 0 rfl) rfl rfl ?_
  refine r_dup (dc_X8_deliver 1 rfl) rfl ?_
  obtain ⟨x1, e0, h⟩ := Option.bind_eq_some_iff.mp h
  refine r_getI (dc_X8_deliver 2 rfl) fl_RX8_43 e0 ?_
  refine r_iconst (dc_X8_deliver 3 rfl) kiconst_1 ?_
  refine r_iadd (dc_X8_deliver 4 rfl) ?_
  obtain ⟨s2, e0, h⟩ := Option.bind_eq_some_iff.mp h
  refine r_put (dc_X8_deliver 5 rfl) pl_RX8_43 rfl e0 ?_
  refine r_aload_n (dc_X8_deliver 6 rfl) rfl rfl ?_
  refine r_iload_n (dc_X8_deliver 7 rfl) rfl rfl ?_
  refine r_iload_n (dc_X8_deliver 8 rfl) rfl rfl ?_
  obtain ⟨p3, e0, h⟩ := Option.bind_eq_some_iff.mp h
  refine r_callV (dc_X8_deliver 9 rfl) mv_X8_row ml_RX8_79 (As := [.int xa1, .int xa2]) (t_X8_row (d := d - 1) hl (by omega) e0) (by omega) rfl (Nat.le_of_ble_eq_true rfl) ?_
  refine r_iload_n (dc_X8_deliver 10 rfl) rfl rfl ?_
  obtain ⟨p5, s4, e0, h⟩ := wb_some h
  refine r_callV (dc_X8_deliver 11 rfl) mv_X4_at ml_RX8_134 (As := [.int xa3]) (t_X4_at (d := d - 1) hl (by omega) e0) (by omega) rfl (Nat.le_of_ble_eq_true rfl) ?_
  refine r_astore (dc_X8_deliver 12 rfl) (by decide) (lo' := [(4, .ref p5), (0, .ref a0), (1, .int xa1), (2, .int xa2), (3, .int xa3)]) rfl ?_
  refine r_aload_n (dc_X8_deliver 13 rfl) rfl rfl ?_
  obtain ⟨p6, e0, h⟩ := Option.bind_eq_some_iff.mp h
  refine r_getR (dc_X8_deliver 14 rfl) fl_RX8_24 e0 ?_
  refine r_iload_n (dc_X8_deliver 15 rfl) rfl rfl ?_
  obtain ⟨p7, e0, h⟩ := Option.bind_eq_some_iff.mp h
  refine r_aaldR (dc_X8_deliver 16 rfl) (kd := 4) rfl e0 ?_
  refine r_aload (dc_X8_deliver 17 rfl) rfl ?_
  refine r_aload_n (dc_X8_deliver 18 rfl) rfl rfl ?_
  obtain ⟨p8, e0, h⟩ := Option.bind_eq_some_iff.mp h
  refine r_getR (dc_X8_deliver 19 rfl) fl_RX8_18 e0 ?_
  refine r_aload_n (dc_X8_deliver 20 rfl) rfl rfl ?_
  obtain ⟨x9, e0, h⟩ := Option.bind_eq_some_iff.mp h
  refine r_getI (dc_X8_deliver 21 rfl) fl_RX8_9 e0 ?_
  refine r_aload_n (dc_X8_deliver 22 rfl) rfl rfl ?_
  obtain ⟨x10, e0, h⟩ := Option.bind_eq_some_iff.mp h
  refine r_getI (dc_X8_deliver 23 rfl) fl_RX8_43 e0 ?_
  obtain ⟨x12, s11, e0, h⟩ := wb_some h
  refine r_callV (dc_X8_deliver 24 rfl) mv_X6_receive ml_RX8_138 (As := [.ref p5, .ref p8, .int x9, .int x10]) (t_X6_receive (d := d - 1) hl (by omega) e0) (by omega) rfl (Nat.le_of_ble_eq_true rfl) ?_
  refine r_istore (dc_X8_deliver 25 rfl) (by decide) (lo' := [(5, .int x12), (4, .ref p5), (0, .ref a0), (1, .int xa1), (2, .int xa2), (3, .int xa3)]) rfl ?_
  refine r_aload_n (dc_X8_deliver 26 rfl) rfl rfl ?_
  refine r_dup (dc_X8_deliver 27 rfl) rfl ?_
  obtain ⟨x13, e0, h⟩ := Option.bind_eq_some_iff.mp h
  refine r_getI (dc_X8_deliver 28 rfl) fl_RX8_52 e0 ?_
  refine r_aload (dc_X8_deliver 29 rfl) rfl ?_
  obtain ⟨x14, e0, h⟩ := Option.bind_eq_some_iff.mp h
  refine r_getI (dc_X8_deliver 30 rfl) fl_RX8_133 e0 ?_
  refine r_iload (dc_X8_deliver 31 rfl) rfl ?_
  refine r_isub (dc_X8_deliver 32 rfl) ?_
  refine r_iadd (dc_X8_deliver 33 rfl) ?_
  obtain ⟨s15, e0, h⟩ := Option.bind_eq_some_iff.mp h
  refine r_put (dc_X8_deliver 34 rfl) pl_RX8_52 rfl e0 ?_
  refine r_aload_n (dc_X8_deliver 35 rfl) rfl rfl ?_
  refine r_iload_n (dc_X8_deliver 36 rfl) rfl rfl ?_
  refine r_iload_n (dc_X8_deliver 37 rfl) rfl rfl ?_
  obtain ⟨p16, e0, h⟩ := Option.bind_eq_some_iff.mp h
  refine r_callV (dc_X8_deliver 38 rfl) mv_X8_row ml_RX8_79 (As := [.int xa1, .int xa2]) (t_X8_row (d := d - 1) hl (by omega) e0) (by omega) rfl (Nat.le_of_ble_eq_true rfl) ?_
  refine r_iload_n (dc_X8_deliver 39 rfl) rfl rfl ?_
  obtain ⟨s17, e0, h⟩ := Option.bind_eq_some_iff.mp h
  refine r_callV (dc_X8_deliver 40 rfl) mv_X4_remove ml_RX8_142 (As := [.int xa3]) (t_X4_remove (d := d - 1) hl (by omega) e0) (by omega) rfl (Nat.le_of_ble_eq_true rfl) ?_
  refine r_iload (dc_X8_deliver 41 rfl) rfl ?_
  cases h
  exact r_ireturn (dc_X8_deliver 42 rfl) rfl
theorem t_X8_discard {G : Gx} {d : Nat} (hl : G.1.stackTraces = false) (hd : 2 ≤ d) {σ : Sto} {a0 : Nat} {xa1 : Int32} {xa2 : Int32} {xa3 : Int32} {r : (Int32 × Sto)} (h : F_X8_discard σ a0 xa1 xa2 xa3 = some r) : Mi G d m_X8_discard 8 a0 [.int xa1, .int xa2, .int xa3] σ (.inl (some (.int r.1))) r.2 := by
  rw [F_X8_discard] at h
  obtain ⟨hg, h⟩ := chk_some h
  refine ⟨J.toMt (lo := [(0, .ref a0), (1, .int xa1), (2, .int xa2), (3, .int xa3)]) pn_RX8 rfl hl (Nat.le_of_ble_eq_true rfl) rfl ?_, hg⟩
  refine r_aload_n (dc_X8_discard 0 rfl) rfl rfl ?_
  refine r_dup (dc_X8_discard 1 rfl) rfl ?_
  obtain ⟨x1, e0, h⟩ := Option.bind_eq_some_iff.mp h
  refine r_getI (dc_X8_discard 2 rfl) fl_RX8_43 e0 ?_
  refine r_iconst (dc_X8_discard 3 rfl) kiconst_1 ?_
  refine r_iadd (dc_X8_discard 4 rfl) ?_
  obtain ⟨s2, e0, h⟩ := Option.bind_eq_some_iff.mp h
  refine r_put (dc_X8_discard 5 rfl) pl_RX8_43 rfl e0 ?_
  refine r_aload_n (dc_X8_discard 6 rfl) rfl rfl ?_
  refine r_iload_n (dc_X8_discard 7 rfl) rfl rfl ?_
  refine r_iload_n (dc_X8_discard 8 rfl) rfl rfl ?_
  obtain ⟨p3, e0, h⟩ := Option.bind_eq_some_iff.mp h
  refine r_callV (dc_X8_discard 9 rfl) mv_X8_row ml_RX8_79 (As := [.int xa1, .int xa2]) (t_X8_row (d := d - 1) hl (by omega) e0) (by omega) rfl (Nat.le_of_ble_eq_true rfl) ?_
  refine r_iload_n (dc_X8_discard 10 rfl) rfl rfl ?_
  obtain ⟨s4, e0, h⟩ := Option.bind_eq_some_iff.mp h
  refine r_callV (dc_X8_discard 11 rfl) mv_X4_remove ml_RX8_142 (As := [.int xa3]) (t_X4_remove (d := d - 1) hl (by omega) e0) (by omega) rfl (Nat.le_of_ble_eq_true rfl) ?_
  refine r_aload_n (dc_X8_discard 12 rfl) rfl rfl ?_
  refine r_iload_n (dc_X8_discard 13 rfl) rfl rfl ?_
  refine r_iload_n (dc_X8_discard 14 rfl) rfl rfl ?_
  obtain ⟨p5, e0, h⟩ := Option.bind_eq_some_iff.mp h
  refine r_callV (dc_X8_discard 15 rfl) mv_X8_row ml_RX8_79 (As := [.int xa1, .int xa2]) (t_X8_row (d := d - 1) hl (by omega) e0) (by omega) rfl (Nat.le_of_ble_eq_true rfl) ?_
  obtain ⟨x6, e0, h⟩ := Option.bind_eq_some_iff.mp h
  refine r_getI (dc_X8_discard 16 rfl) fl_RX8_59 e0 ?_
  cases h
  exact r_ireturn (dc_X8_discard 17 rfl) rfl
theorem t_X8_repeat {G : Gx} {d : Nat} (hl : G.1.stackTraces = false) (hd : 5 ≤ d) {σ : Sto} {a0 : Nat} {xa1 : Int32} {xa2 : Int32} {xa3 : Int32} {r : (Int32 × Sto)} (h : F_X8_repeat σ a0 xa1 xa2 xa3 = some r) : Mi G d m_X8_repeat 8 a0 [.int xa1, .int xa2, .int xa3] σ (.inl (some (.int r.1))) r.2 := by
  rw [F_X8_repeat] at h
  obtain ⟨hg, h⟩ := chk_some h
  refine ⟨J.toMt (lo := [(0, .ref a0), (1, .int xa1), (2, .int xa2), (3, .int xa3)]) pn_RX8 rfl hl (Nat.le_of_ble_eq_true rfl) rfl ?_, hg⟩
  refine r_aload_n (dc_X8_repeat 0 rfl) rfl rfl ?_
  refine r_dup (dc_X8_repeat 1 rfl) rfl ?_
  obtain ⟨x1, e0, h⟩ := Option.bind_eq_some_iff.mp h
  refine r_getI (dc_X8_repeat 2 rfl) fl_RX8_43 e0 ?_
  refine r_iconst (dc_X8_repeat 3 rfl) kiconst_1 ?_
  refine r_iadd (dc_X8_repeat 4 rfl) ?_
  obtain ⟨s2, e0, h⟩ := Option.bind_eq_some_iff.mp h
  refine r_put (dc_X8_repeat 5 rfl) pl_RX8_43 rfl e0 ?_
  refine r_aload_n (dc_X8_repeat 6 rfl) rfl rfl ?_
  refine r_iload_n (dc_X8_repeat 7 rfl) rfl rfl ?_
  refine r_iload_n (dc_X8_repeat 8 rfl) rfl rfl ?_
  obtain ⟨p3, e0, h⟩ := Option.bind_eq_some_iff.mp h
  refine r_callV (dc_X8_repeat 9 rfl) mv_X8_row ml_RX8_79 (As := [.int xa1, .int xa2]) (t_X8_row (d := d - 1) hl (by omega) e0) (by omega) rfl (Nat.le_of_ble_eq_true rfl) ?_
  refine r_iload_n (dc_X8_repeat 10 rfl) rfl rfl ?_
  obtain ⟨p5, s4, e0, h⟩ := wb_some h
  refine r_callV (dc_X8_repeat 11 rfl) mv_X4_at ml_RX8_134 (As := [.int xa3]) (t_X4_at (d := d - 1) hl (by omega) e0) (by omega) rfl (Nat.le_of_ble_eq_true rfl) ?_
  refine r_astore (dc_X8_repeat 12 rfl) (by decide) (lo' := [(4, .ref p5), (0, .ref a0), (1, .int xa1), (2, .int xa2), (3, .int xa3)]) rfl ?_
  refine r_aload_n (dc_X8_repeat 13 rfl) rfl rfl ?_
  refine r_iload_n (dc_X8_repeat 14 rfl) rfl rfl ?_
  refine r_iload_n (dc_X8_repeat 15 rfl) rfl rfl ?_
  obtain ⟨p6, e0, h⟩ := Option.bind_eq_some_iff.mp h
  refine r_callV (dc_X8_repeat 16 rfl) mv_X8_row ml_RX8_79 (As := [.int xa1, .int xa2]) (t_X8_row (d := d - 1) hl (by omega) e0) (by omega) rfl (Nat.le_of_ble_eq_true rfl) ?_
  obtain ⟨p8, s7, e0, h⟩ := wb_some h
  refine r_callV (dc_X8_repeat 17 rfl) mv_X4_append ml_RX8_124 (As := []) (t_X4_append (d := d - 1) hl (by omega) e0) (by omega) rfl (Nat.le_of_ble_eq_true rfl) ?_
  refine r_aload (dc_X8_repeat 18 rfl) rfl ?_
  obtain ⟨s9, e0, h⟩ := Option.bind_eq_some_iff.mp h
  refine r_callV (dc_X8_repeat 19 rfl) mv_X3_copyOf ml_RX8_143 (As := [.ref p5]) (t_X3_copyOf (d := d - 1) hl (by omega) e0) (by omega) rfl (Nat.le_of_ble_eq_true rfl) ?_
  refine r_aload_n (dc_X8_repeat 20 rfl) rfl rfl ?_
  refine r_iload_n (dc_X8_repeat 21 rfl) rfl rfl ?_
  refine r_iload_n (dc_X8_repeat 22 rfl) rfl rfl ?_
  obtain ⟨p10, e0, h⟩ := Option.bind_eq_some_iff.mp h
  refine r_callV (dc_X8_repeat 23 rfl) mv_X8_row ml_RX8_79 (As := [.int xa1, .int xa2]) (t_X8_row (d := d - 1) hl (by omega) e0) (by omega) rfl (Nat.le_of_ble_eq_true rfl) ?_
  obtain ⟨x11, e0, h⟩ := Option.bind_eq_some_iff.mp h
  refine r_getI (dc_X8_repeat 24 rfl) fl_RX8_59 e0 ?_
  cases h
  exact r_ireturn (dc_X8_repeat 25 rfl) rfl
theorem t_X8_store {G : Gx} {d : Nat} (hl : G.1.stackTraces = false) (hd : 4 ≤ d) {σ : Sto} {a0 : Nat} {xa1 : Int32} {r : (Int32 × Sto)} (h : F_X8_store σ a0 xa1 = some r) : Mi G d m_X8_store 8 a0 [.int xa1] σ (.inl (some (.int r.1))) r.2 := by
  rw [F_X8_store] at h
  obtain ⟨hg, h⟩ := chk_some h
  refine ⟨J.toMt (lo := [(0, .ref a0), (1, .int xa1)]) pn_RX8 rfl hl (Nat.le_of_ble_eq_true rfl) rfl ?_, hg⟩
  refine r_aload_n (dc_X8_store 0 rfl) rfl rfl ?_
  refine r_dup (dc_X8_store 1 rfl) rfl ?_
  obtain ⟨x1, e0, h⟩ := Option.bind_eq_some_iff.mp h
  refine r_getI (dc_X8_store 2 rfl) fl_RX8_43 e0 ?_
  refine r_iconst (dc_X8_store 3 rfl) kiconst_1 ?_
  refine r_iadd (dc_X8_store 4 rfl) ?_
  obtain ⟨s2, e0, h⟩ := Option.bind_eq_some_iff.mp h
  refine r_put (dc_X8_store 5 rfl) pl_RX8_43 rfl e0 ?_
  refine r_aload_n (dc_X8_store 6 rfl) rfl rfl ?_
  obtain ⟨p3, e0, h⟩ := Option.bind_eq_some_iff.mp h
  refine r_getR (dc_X8_store 7 rfl) fl_RX8_28 e0 ?_
  refine r_iload_n (dc_X8_store 8 rfl) rfl rfl ?_
  obtain ⟨p4, e0, h⟩ := Option.bind_eq_some_iff.mp h
  refine r_aaldR (dc_X8_store 9 rfl) (kd := 4) rfl e0 ?_
  refine r_aload_n (dc_X8_store 10 rfl) rfl rfl ?_
  obtain ⟨p5, e0, h⟩ := Option.bind_eq_some_iff.mp h
  refine r_getR (dc_X8_store 11 rfl) fl_RX8_24 e0 ?_
  refine r_iload_n (dc_X8_store 12 rfl) rfl rfl ?_
  obtain ⟨p6, e0, h⟩ := Option.bind_eq_some_iff.mp h
  refine r_aaldR (dc_X8_store 13 rfl) (kd := 4) rfl e0 ?_
  obtain ⟨s7, e0, h⟩ := Option.bind_eq_some_iff.mp h
  refine r_callV (dc_X8_store 14 rfl) mv_X6_copyOf ml_RX8_69 (As := [.ref p6]) (t_X6_copyOf (d := d - 1) hl (by omega) e0) (by omega) rfl (Nat.le_of_ble_eq_true rfl) ?_
  refine r_aload_n (dc_X8_store 15 rfl) rfl rfl ?_
  obtain ⟨p8, e0, h⟩ := Option.bind_eq_some_iff.mp h
  refine r_getR (dc_X8_store 16 rfl) fl_RX8_24 e0 ?_
  refine r_iload_n (dc_X8_store 17 rfl) rfl rfl ?_
  obtain ⟨p9, e0, h⟩ := Option.bind_eq_some_iff.mp h
  refine r_aaldR (dc_X8_store 18 rfl) (kd := 4) rfl e0 ?_
  obtain ⟨p10, e0, h⟩ := Option.bind_eq_some_iff.mp h
  refine r_getR (dc_X8_store 19 rfl) fl_RX8_113 e0 ?_
  obtain ⟨x11, e0, h⟩ := Option.bind_eq_some_iff.mp h
  refine r_callV (dc_X8_store 20 rfl) mv_X1_size ml_RX8_146 (As := []) (t_X1_size (d := d - 1) hl (by omega) e0) (by omega) rfl (Nat.le_of_ble_eq_true rfl) ?_
  cases h
  exact r_ireturn (dc_X8_store 21 rfl) rfl
theorem t_X8_restore {G : Gx} {d : Nat} (hl : G.1.stackTraces = false) (hd : 4 ≤ d) {σ : Sto} {a0 : Nat} {xa1 : Int32} {r : (Int32 × Sto)} (h : F_X8_restore σ a0 xa1 = some r) : Mi G d m_X8_restore 8 a0 [.int xa1] σ (.inl (some (.int r.1))) r.2 := by
  rw [F_X8_restore] at h
  obtain ⟨hg, h⟩ := chk_some h
  refine ⟨J.toMt (lo := [(0, .ref a0), (1, .int xa1)]) pn_RX8 rfl hl (Nat.le_of_ble_eq_true rfl) rfl ?_, hg⟩
  refine r_aload_n (dc_X8_restore 0 rfl) rfl rfl ?_
  refine r_dup (dc_X8_restore 1 rfl) rfl ?_
  obtain ⟨x1, e0, h⟩ := Option.bind_eq_some_iff.mp h
  refine r_getI (dc_X8_restore 2 rfl) fl_RX8_43 e0 ?_
  refine r_iconst (dc_X8_restore 3 rfl) kiconst_1 ?_
  refine r_iadd (dc_X8_restore 4 rfl) ?_
  obtain ⟨s2, e0, h⟩ := Option.bind_eq_some_iff.mp h
  refine r_put (dc_X8_restore 5 rfl) pl_RX8_43 rfl e0 ?_
  refine r_aload_n (dc_X8_restore 6 rfl) rfl rfl ?_
  obtain ⟨p3, e0, h⟩ := Option.bind_eq_some_iff.mp h
  refine r_getR (dc_X8_restore 7 rfl) fl_RX8_24 e0 ?_
  refine r_iload_n (dc_X8_restore 8 rfl) rfl rfl ?_
  obtain ⟨p4, e0, h⟩ := Option.bind_eq_some_iff.mp h
  refine r_aaldR (dc_X8_restore 9 rfl) (kd := 4) rfl e0 ?_
  obtain ⟨p5, e0, h⟩ := Option.bind_eq_some_iff.mp h
  refine r_getR (dc_X8_restore 10 rfl) fl_RX8_113 e0 ?_
  refine r_astore_n (dc_X8_restore 11 rfl) rfl (by decide) (lo' := [(2, .ref p5), (0, .ref a0), (1, .int xa1)]) rfl ?_
  refine r_aload_n (dc_X8_restore 12 rfl) rfl rfl ?_
  obtain ⟨x6, e0, h⟩ := Option.bind_eq_some_iff.mp h
  refine r_callV (dc_X8_restore 13 rfl) mv_X1_size ml_RX8_146 (As := []) (t_X1_size (d := d - 1) hl (by omega) e0) (by omega) rfl (Nat.le_of_ble_eq_true rfl) ?_
  refine r_aload_n (dc_X8_restore 14 rfl) rfl rfl ?_
  refine r_aload_n (dc_X8_restore 15 rfl) rfl rfl ?_
  obtain ⟨p7, e0, h⟩ := Option.bind_eq_some_iff.mp h
  refine r_getR (dc_X8_restore 16 rfl) fl_RX8_28 e0 ?_
  refine r_iload_n (dc_X8_restore 17 rfl) rfl rfl ?_
  obtain ⟨p8, e0, h⟩ := Option.bind_eq_some_iff.mp h
  refine r_aaldR (dc_X8_restore 18 rfl) (kd := 4) rfl e0 ?_
  obtain ⟨p9, e0, h⟩ := Option.bind_eq_some_iff.mp h
  refine r_getR (dc_X8_restore 19 rfl) fl_RX8_113 e0 ?_
  obtain ⟨x10, e0, h⟩ := Option.bind_eq_some_iff.mp h
  refine r_callV (dc_X8_restore 20 rfl) mv_X1_shared ml_RX8_149 (As := [.ref p9]) (t_X1_shared (d := d - 1) hl (by omega) e0) (by omega) rfl (Nat.le_of_ble_eq_true rfl) ?_
  refine r_isub (dc_X8_restore 21 rfl) ?_
  refine r_istore_n (dc_X8_restore 22 rfl) rfl (by decide) (lo' := [(3, .int (x6 - x10)), (2, .ref p5), (0, .ref a0), (1, .int xa1)]) rfl ?_
  refine r_aload_n (dc_X8_restore 23 rfl) rfl rfl ?_
  obtain ⟨p11, e0, h⟩ := Option.bind_eq_some_iff.mp h
  refine r_getR (dc_X8_restore 24 rfl) fl_RX8_24 e0 ?_
  refine r_iload_n (dc_X8_restore 25 rfl) rfl rfl ?_
  obtain ⟨p12, e0, h⟩ := Option.bind_eq_some_iff.mp h
  refine r_aaldR (dc_X8_restore 26 rfl) (kd := 4) rfl e0 ?_
  refine r_aload_n (dc_X8_restore 27 rfl) rfl rfl ?_
  obtain ⟨p13, e0, h⟩ := Option.bind_eq_some_iff.mp h
  refine r_getR (dc_X8_restore 28 rfl) fl_RX8_28 e0 ?_
  refine r_iload_n (dc_X8_restore 29 rfl) rfl rfl ?_
  obtain ⟨p14, e0, h⟩ := Option.bind_eq_some_iff.mp h
  refine r_aaldR (dc_X8_restore 30 rfl) (kd := 4) rfl e0 ?_
  obtain ⟨s15, e0, h⟩ := Option.bind_eq_some_iff.mp h
  refine r_callV (dc_X8_restore 31 rfl) mv_X6_copyOf ml_RX8_69 (As := [.ref p14]) (t_X6_copyOf (d := d - 1) hl (by omega) e0) (by omega) rfl (Nat.le_of_ble_eq_true rfl) ?_
  refine r_iload_n (dc_X8_restore 32 rfl) rfl rfl ?_
  cases h
  exact r_ireturn (dc_X8_restore 33 rfl) rfl
theorem t_X8_adopt {G : Gx} {d : Nat} (hl : G.1.stackTraces = false) (hd : 4 ≤ d) {σ : Sto} {a0 : Nat} {xa1 : Int32} {xa2 : Int32} {r : (Int32 × Sto)} (h : F_X8_adopt σ a0 xa1 xa2 = some r) : Mi G d m_X8_adopt 8 a0 [.int xa1, .int xa2] σ (.inl (some (.int r.1))) r.2 := by
  rw [F_X8_adopt] at h
  obtain ⟨hg, h⟩ := chk_some h
  refine ⟨J.toMt (lo := [(0, .ref a0), (1, .int xa1), (2, .int xa2)]) pn_RX8 rfl hl (Nat.le_of_ble_eq_true rfl) rfl ?_, hg⟩
  refine r_aload_n (dc_X8_adopt 0 rfl) rfl rfl ?_
  refine r_dup (dc_X8_adopt 1 rfl) rfl ?_
  obtain ⟨x1, e0, h⟩ := Option.bind_eq_some_iff.mp h
  refine r_getI (dc_X8_adopt 2 rfl) fl_RX8_43 e0 ?_
  refine r_iconst (dc_X8_adopt 3 rfl) kiconst_1 ?_
  refine r_iadd (dc_X8_adopt 4 rfl) ?_
  obtain ⟨s2, e0, h⟩ := Option.bind_eq_some_iff.mp h
  refine r_put (dc_X8_adopt 5 rfl) pl_RX8_43 rfl e0 ?_
  refine r_aload_n (dc_X8_adopt 6 rfl) rfl rfl ?_
  obtain ⟨p3, e0, h⟩ := Option.bind_eq_some_iff.mp h
  refine r_getR (dc_X8_adopt 7 rfl) fl_RX8_24 e0 ?_
  refine r_iload_n (dc_X8_adopt 8 rfl) rfl rfl ?_
  obtain ⟨p4, e0, h⟩ := Option.bind_eq_some_iff.mp h
  refine r_aaldR (dc_X8_adopt 9 rfl) (kd := 4) rfl e0 ?_
  refine r_aload_n (dc_X8_adopt 10 rfl) rfl rfl ?_
  obtain ⟨p5, e0, h⟩ := Option.bind_eq_some_iff.mp h
  refine r_getR (dc_X8_adopt 11 rfl) fl_RX8_24 e0 ?_
  refine r_iload_n (dc_X8_adopt 12 rfl) rfl rfl ?_
  obtain ⟨p6, e0, h⟩ := Option.bind_eq_some_iff.mp h
  refine r_aaldR (dc_X8_adopt 13 rfl) (kd := 4) rfl e0 ?_
  refine r_iload_n (dc_X8_adopt 14 rfl) rfl rfl ?_
  refine r_iload_n (dc_X8_adopt 15 rfl) rfl rfl ?_
  refine r_aload_n (dc_X8_adopt 16 rfl) rfl rfl ?_
  obtain ⟨p7, e0, h⟩ := Option.bind_eq_some_iff.mp h
  refine r_getR (dc_X8_adopt 17 rfl) fl_RX8_18 e0 ?_
  obtain ⟨p8, e0, h⟩ := Option.bind_eq_some_iff.mp h
  refine r_getR (dc_X8_adopt 18 rfl) fl_RX8_153 e0 ?_
  refine r_iload_n (dc_X8_adopt 19 rfl) rfl rfl ?_
  obtain ⟨x9, e0, h⟩ := Option.bind_eq_some_iff.mp h
  refine r_iald (dc_X8_adopt 20 rfl) e0 ?_
  refine r_aload_n (dc_X8_adopt 21 rfl) rfl rfl ?_
  obtain ⟨x10, e0, h⟩ := Option.bind_eq_some_iff.mp h
  refine r_getI (dc_X8_adopt 22 rfl) fl_RX8_43 e0 ?_
  obtain ⟨s11, e0, h⟩ := Option.bind_eq_some_iff.mp h
  refine r_callV (dc_X8_adopt 23 rfl) mv_X6_adopt ml_RX8_156 (As := [.ref p6, .int xa1, .int xa2, .int x9, .int x10]) (t_X6_adopt (d := d - 1) hl (by omega) e0) (by omega) rfl (Nat.le_of_ble_eq_true rfl) ?_
  refine r_aload_n (dc_X8_adopt 24 rfl) rfl rfl ?_
  obtain ⟨p12, e0, h⟩ := Option.bind_eq_some_iff.mp h
  refine r_getR (dc_X8_adopt 25 rfl) fl_RX8_24 e0 ?_
  refine r_iload_n (dc_X8_adopt 26 rfl) rfl rfl ?_
  obtain ⟨p13, e0, h⟩ := Option.bind_eq_some_iff.mp h
  refine r_aaldR (dc_X8_adopt 27 rfl) (kd := 4) rfl e0 ?_
  obtain ⟨p14, e0, h⟩ := Option.bind_eq_some_iff.mp h
  refine r_getR (dc_X8_adopt 28 rfl) fl_RX8_113 e0 ?_
  obtain ⟨x15, e0, h⟩ := Option.bind_eq_some_iff.mp h
  refine r_callV (dc_X8_adopt 29 rfl) mv_X1_size ml_RX8_146 (As := []) (t_X1_size (d := d - 1) hl (by omega) e0) (by omega) rfl (Nat.le_of_ble_eq_true rfl) ?_
  cases h
  exact r_ireturn (dc_X8_adopt 30 rfl) rfl
theorem t_X8_setLink {G : Gx} {d : Nat} (hl : G.1.stackTraces = false) (hd : 1 ≤ d) {σ : Sto} {a0 : Nat} {xa1 : Int32} {xa2 : Int32} {xa3 : Int32} {r : Sto} (h : F_X8_setLink σ a0 xa1 xa2 xa3 = some r) : Mi G d m_X8_setLink 8 a0 [.int xa1, .int xa2, .int xa3] σ (.inl none) r := by
  rw [F_X8_setLink] at h
  obtain ⟨hg, h⟩ := chk_some h
  refine ⟨J.toMt (lo := [(0, .ref a0), (1, .int xa1), (2, .int xa2), (3, .int xa3)]) pn_RX8 rfl hl (Nat.le_of_ble_eq_true rfl) rfl ?_, hg⟩
  refine r_aload_n (dc_X8_setLink 0 rfl) rfl rfl ?_
  refine r_dup (dc_X8_setLink 1 rfl) rfl ?_
  obtain ⟨x1, e0, h⟩ := Option.bind_eq_some_iff.mp h
  refine r_getI (dc_X8_setLink 2 rfl) fl_RX8_43 e0 ?_
  refine r_iconst (dc_X8_setLink 3 rfl) kiconst_1 ?_
  refine r_iadd (dc_X8_setLink 4 rfl) ?_
  obtain ⟨s2, e0, h⟩ := Option.bind_eq_some_iff.mp h
  refine r_put (dc_X8_setLink 5 rfl) pl_RX8_43 rfl e0 ?_
  refine r_aload_n (dc_X8_setLink 6 rfl) rfl rfl ?_
  obtain ⟨p3, e0, h⟩ := Option.bind_eq_some_iff.mp h
  refine r_getR (dc_X8_setLink 7 rfl) fl_RX8_37 e0 ?_
  refine r_iload_n (dc_X8_setLink 8 rfl) rfl rfl ?_
  refine r_iload_n (dc_X8_setLink 9 rfl) rfl rfl ?_
  obtain ⟨x4, e0, h⟩ := Option.bind_eq_some_iff.mp h
  refine r_callSN (dc_X8_setLink 10 rfl) ms_X9_cell mn_RX8_75 (As := [.int xa1, .int xa2]) (t_X9_cell (d := d - 1) hl (by omega) e0) (by omega) rfl (Nat.le_of_ble_eq_true rfl) ?_
  refine r_iload_n (dc_X8_setLink 11 rfl) rfl rfl ?_
  obtain ⟨s5, e0, h⟩ := Option.bind_eq_some_iff.mp h
  refine r_zast (dc_X8_setLink 12 rfl) e0 ?_
  refine r_aload_n (dc_X8_setLink 13 rfl) rfl rfl ?_
  obtain ⟨p6, e0, h⟩ := Option.bind_eq_some_iff.mp h
  refine r_getR (dc_X8_setLink 14 rfl) fl_RX8_37 e0 ?_
  refine r_iload_n (dc_X8_setLink 15 rfl) rfl rfl ?_
  refine r_iload_n (dc_X8_setLink 16 rfl) rfl rfl ?_
  obtain ⟨x7, e0, h⟩ := Option.bind_eq_some_iff.mp h
  refine r_callSN (dc_X8_setLink 17 rfl) ms_X9_cell mn_RX8_75 (As := [.int xa2, .int xa1]) (t_X9_cell (d := d - 1) hl (by omega) e0) (by omega) rfl (Nat.le_of_ble_eq_true rfl) ?_
  refine r_iload_n (dc_X8_setLink 18 rfl) rfl rfl ?_
  obtain ⟨s8, e0, h⟩ := Option.bind_eq_some_iff.mp h
  refine r_zast (dc_X8_setLink 19 rfl) e0 ?_
  cases h
  exact r_vreturn (dc_X8_setLink 20 rfl) rfl
theorem l_X8_holders_L4 {G : Gx} {d : Nat} (hl : G.1.stackTraces = false) (hd : 1 ≤ d) {sL : Sto} {pL0 : Nat} {xL1 : Int32} {r : Int32} {k37 : Int32 → Option Int32}
    (hk37 : ∀ (xL2 : Int32), k37 xL2 = some r → J G d m_X8_holders 37 [(2, .int xL2)] [] sL (.inl (some (.int r))) sL)
  : ∀ (f : Nat) (xL2 : Int32) (xL3 : Int32), F_X8_holders_L4 sL pL0 xL1 f xL2 xL3 k37 = some r → J G d m_X8_holders 4 [(0, .ref pL0), (1, .int xL1), (2, .int xL2), (3, .int xL3)] [] sL (.inl (some (.int r))) sL := by
  intro f
  induction f with
  | zero => intro xL2 xL3 h; rw [F_X8_holders_L4] at h; cases h
  | succ f ih =>
    intro xL2 xL3 h
    rw [F_X8_holders_L4] at h
    refine r_iload_n (dc_X8_holders 4 rfl) rfl rfl ?_
    refine r_aload_n (dc_X8_holders 5 rfl) rfl rfl ?_
    obtain ⟨x1, e0, h⟩ := Option.bind_eq_some_iff.mp h
    refine r_getI (dc_X8_holders 6 rfl) fl_RX8_9 e0 ?_
    refine r_icmp_ge (dc_X8_holders 7 rfl) (tgt := 37) (by decide) (fun c0 => ?_) (fun c0 => ?_)
    · rw [if_pos c0] at h
      refine r_pick [2] (lo' := [(2, .int xL2)]) rfl ?_
      exact hk37 _ h
    · rw [if_neg c0] at h
      refine r_aload_n (dc_X8_holders 8 rfl) rfl rfl ?_
      obtain ⟨p2, e0, h⟩ := Option.bind_eq_some_iff.mp h
      refine r_getR (dc_X8_holders 9 rfl) fl_RX8_24 e0 ?_
      refine r_iload_n (dc_X8_holders 10 rfl) rfl rfl ?_
      obtain ⟨p3, e0, h⟩ := Option.bind_eq_some_iff.mp h
      refine r_aaldR (dc_X8_holders 11 rfl) (kd := 4) rfl e0 ?_
      obtain ⟨p4, e0, h⟩ := Option.bind_eq_some_iff.mp h
      refine r_getR (dc_X8_holders 12 rfl) fl_RX8_113 e0 ?_
      refine r_iload_n (dc_X8_holders 13 rfl) rfl rfl ?_
      obtain ⟨x5, e0, h⟩ := Option.bind_eq_some_iff.mp h
      refine r_callV (dc_X8_holders 14 rfl) mv_X1_holds ml_RX8_160 (As := [.int xL1]) (t_X1_holds (d := d - 1) hl (by omega) e0) (by omega) rfl (Nat.le_of_ble_eq_true rfl) ?_
      refine r_if_eq (dc_X8_holders 15 rfl) (tgt := 31) (by decide) (fun c0 => ?_) (fun c0 => ?_)
      · rw [if_pos c0] at h
        refine r_iinc (dc_X8_holders 17 rfl) rfl (kinc_1 _) (by decide) (lo' := [(3, .int (xL3 + (1 : Int32))), (0, .ref pL0), (1, .int xL1), (2, .int xL2)]) rfl ?_
        refine r_goto (dc_X8_holders 18 rfl) (tgt := 4) (by decide) ?_
        refine r_pick [1, 2, 3, 0] (lo' := [(0, .ref pL0), (1, .int xL1), (2, .int xL2), (3, .int (xL3 + (1 : Int32)))]) rfl ?_
        exact ih _ _ h
      · rw [if_neg c0] at h
        refine r_iinc (dc_X8_holders 16 rfl) rfl (kinc_1 _) (by decide) (lo' := [(2, .int (xL2 + (1 : Int32))), (0, .ref pL0), (1, .int xL1), (3, .int xL3)]) rfl ?_
        refine r_iinc (dc_X8_holders 17 rfl) rfl (kinc_1 _) (by decide) (lo' := [(3, .int (xL3 + (1 : Int32))), (2, .int (xL2 + (1 : Int32))), (0, .ref pL0), (1, .int xL1)]) rfl ?_
        refine r_goto (dc_X8_holders 18 rfl) (tgt := 4) (by decide) ?_
        refine r_pick [2, 3, 1, 0] (lo' := [(0, .ref pL0), (1, .int xL1), (2, .int (xL2 + (1 : Int32))), (3, .int (xL3 + (1 : Int32)))]) rfl ?_
        exact ih _ _ h
theorem t_X8_holders {G : Gx} {d : Nat} (hl : G.1.stackTraces = false) (hd : 1 ≤ d) {σ : Sto} {a0 : Nat} {xa1 : Int32} {r : Int32} (h : F_X8_holders σ a0 xa1 = some r) : Mi G d m_X8_holders 8 a0 [.int xa1] σ (.inl (some (.int r))) σ := by
  rw [F_X8_holders] at h
  obtain ⟨hg, h⟩ := chk_some h
  refine ⟨J.toMt (lo := [(0, .ref a0), (1, .int xa1)]) pn_RX8 rfl hl (Nat.le_of_ble_eq_true rfl) rfl ?_, hg⟩
  refine r_iconst (dc_X8_holders 0 rfl) kiconst_0 ?_
  refine r_istore_n (dc_X8_holders 1 rfl) rfl (by decide) (lo' := [(2, .int (0 : Int32)), (0, .ref a0), (1, .int xa1)]) rfl ?_
  refine r_iconst (dc_X8_holders 2 rfl) kiconst_0 ?_
  refine r_istore_n (dc_X8_holders 3 rfl) rfl (by decide) (lo' := [(3, .int (0 : Int32)), (2, .int (0 : Int32)), (0, .ref a0), (1, .int xa1)]) rfl ?_
  refine r_pick [2, 3, 1, 0] (lo' := [(0, .ref a0), (1, .int xa1), (2, .int (0 : Int32)), (3, .int (0 : Int32))]) rfl ?_
  refine l_X8_holders_L4 hl hd (hk37 := ?_) fu _ _ h
  · intro x6 h
    refine r_iload_n (dc_X8_holders 19 rfl) rfl rfl ?_
    cases h
    exact r_ireturn (dc_X8_holders 20 rfl) rfl
theorem l_X8_logsWith_L4 {G : Gx} {d : Nat} (hl : G.1.stackTraces = false) (hd : 1 ≤ d) {sL : Sto} {pL0 : Nat} {xL1 : Int32} {r : Int32} {k34 : Int32 → Option Int32}
    (hk34 : ∀ (xL2 : Int32), k34 xL2 = some r → J G d m_X8_logsWith 34 [(2, .int xL2)] [] sL (.inl (some (.int r))) sL)
  : ∀ (f : Nat) (xL2 : Int32) (xL3 : Int32), F_X8_logsWith_L4 sL pL0 xL1 f xL2 xL3 k34 = some r → J G d m_X8_logsWith 4 [(0, .ref pL0), (1, .int xL1), (2, .int xL2), (3, .int xL3)] [] sL (.inl (some (.int r))) sL := by
  intro f
  induction f with
  | zero => intro xL2 xL3 h; rw [F_X8_logsWith_L4] at h; cases h
  | succ f ih =>
    intro xL2 xL3 h
    rw [F_X8_logsWith_L4] at h
    refine r_iload_n (dc_X8_logsWith 4 rfl) rfl rfl ?_
    refine r_aload_n (dc_X8_logsWith 5 rfl) rfl rfl ?_
    obtain ⟨x1, e0, h⟩ := Option.bind_eq_some_iff.mp h
    refine r_getI (dc_X8_logsWith 6 rfl) fl_RX8_9 e0 ?_
    refine r_icmp_ge (dc_X8_logsWith 7 rfl) (tgt := 34) (by decide) (fun c0 => ?_) (fun c0 => ?_)
    · rw [if_pos c0] at h
      refine r_pick [2] (lo' := [(2, .int xL2)]) rfl ?_
      exact hk34 _ h
    · rw [if_neg c0] at h
      refine r_aload_n (dc_X8_logsWith 8 rfl) rfl rfl ?_
      obtain ⟨p2, e0, h⟩ := Option.bind_eq_some_iff.mp h
      refine r_getR (dc_X8_logsWith 9 rfl) fl_RX8_24 e0 ?_
      refine r_iload_n (dc_X8_logsWith 10 rfl) rfl rfl ?_
      obtain ⟨p3, e0, h⟩ := Option.bind_eq_some_iff.mp h
      refine r_aaldR (dc_X8_logsWith 11 rfl) (kd := 4) rfl e0 ?_
      refine r_iload_n (dc_X8_logsWith 12 rfl) rfl rfl ?_
      obtain ⟨x4, e0, h⟩ := Option.bind_eq_some_iff.mp h
      refine r_callV (dc_X8_logsWith 13 rfl) mv_X6_logHolds ml_RX8_164 (As := [.int xL1]) (t_X6_logHolds (d := d - 1) hl (by omega) e0) (by omega) rfl (Nat.le_of_ble_eq_true rfl) ?_
      refine r_if_eq (dc_X8_logsWith 14 rfl) (tgt := 28) (by decide) (fun c0 => ?_) (fun c0 => ?_)
      · rw [if_pos c0] at h
        refine r_iinc (dc_X8_logsWith 16 rfl) rfl (kinc_1 _) (by decide) (lo' := [(3, .int (xL3 + (1 : Int32))), (0, .ref pL0), (1, .int xL1), (2, .int xL2)]) rfl ?_
        refine r_goto (dc_X8_logsWith 17 rfl) (tgt := 4) (by decide) ?_
        refine r_pick [1, 2, 3, 0] (lo' := [(0, .ref pL0), (1, .int xL1), (2, .int xL2), (3, .int (xL3 + (1 : Int32)))]) rfl ?_
        exact ih _ _ h
      · rw [if_neg c0] at h
        refine r_iinc (dc_X8_logsWith 15 rfl) rfl (kinc_1 _) (by decide) (lo' := [(2, .int (xL2 + (1 : Int32))), (0, .ref pL0), (1, .int xL1), (3, .int xL3)]) rfl ?_
        refine r_iinc (dc_X8_logsWith 16 rfl) rfl (kinc_1 _) (by decide) (lo' := [(3, .int (xL3 + (1 : Int32))), (2, .int (xL2 + (1 : Int32))), (0, .ref pL0), (1, .int xL1)]) rfl ?_
        refine r_goto (dc_X8_logsWith 17 rfl) (tgt := 4) (by decide) ?_
        refine r_pick [2, 3, 1, 0] (lo' := [(0, .ref pL0), (1, .int xL1), (2, .int (xL2 + (1 : Int32))), (3, .int (xL3 + (1 : Int32)))]) rfl ?_
        exact ih _ _ h
theorem t_X8_logsWith {G : Gx} {d : Nat} (hl : G.1.stackTraces = false) (hd : 1 ≤ d) {σ : Sto} {a0 : Nat} {xa1 : Int32} {r : Int32} (h : F_X8_logsWith σ a0 xa1 = some r) : Mi G d m_X8_logsWith 8 a0 [.int xa1] σ (.inl (some (.int r))) σ := by
  rw [F_X8_logsWith] at h
  obtain ⟨hg, h⟩ := chk_some h
  refine ⟨J.toMt (lo := [(0, .ref a0), (1, .int xa1)]) pn_RX8 rfl hl (Nat.le_of_ble_eq_true rfl) rfl ?_, hg⟩
  refine r_iconst (dc_X8_logsWith 0 rfl) kiconst_0 ?_
  refine r_istore_n (dc_X8_logsWith 1 rfl) rfl (by decide) (lo' := [(2, .int (0 : Int32)), (0, .ref a0), (1, .int xa1)]) rfl ?_
  refine r_iconst (dc_X8_logsWith 2 rfl) kiconst_0 ?_
  refine r_istore_n (dc_X8_logsWith 3 rfl) rfl (by decide) (lo' := [(3, .int (0 : Int32)), (2, .int (0 : Int32)), (0, .ref a0), (1, .int xa1)]) rfl ?_
  refine r_pick [2, 3, 1, 0] (lo' := [(0, .ref a0), (1, .int xa1), (2, .int (0 : Int32)), (3, .int (0 : Int32))]) rfl ?_
  refine l_X8_logsWith_L4 hl hd (hk34 := ?_) fu _ _ h
  · intro x5 h
    refine r_iload_n (dc_X8_logsWith 18 rfl) rfl rfl ?_
    cases h
    exact r_ireturn (dc_X8_logsWith 19 rfl) rfl
theorem l_X8_wayOf_L24 {G : Gx} {d : Nat} (hl : G.1.stackTraces = false) (hd : 1 ≤ d) {sL : Sto} {pL0 : Nat} {xL2 : Int32} {xL3 : Int32} {r : Int32} {k95 : Int32 → Int32 → Option Int32}
    (hk95 : ∀ (xL4 : Int32) (xL5 : Int32), k95 xL4 xL5 = some r → J G d m_X8_wayOf 95 [(3, .int xL3), (4, .int xL4), (5, .int xL5)] [] sL (.inl (some (.int r))) sL)
  : ∀ (f : Nat) (xL4 : Int32) (xL5 : Int32), F_X8_wayOf_L24 sL pL0 xL2 xL3 f xL4 xL5 k95 = some r → J G d m_X8_wayOf 24 [(0, .ref pL0), (2, .int xL2), (3, .int xL3), (4, .int xL4), (5, .int xL5)] [] sL (.inl (some (.int r))) sL := by
  intro f
  induction f with
  | zero => intro xL4 xL5 h; rw [F_X8_wayOf_L24] at h; cases h
  | succ f ih =>
    intro xL4 xL5 h
    rw [F_X8_wayOf_L24] at h
    refine r_iload (dc_X8_wayOf 14 rfl) rfl ?_
    refine r_aload_n (dc_X8_wayOf 15 rfl) rfl rfl ?_
    obtain ⟨x5, e0, h⟩ := Option.bind_eq_some_iff.mp h
    refine r_getI (dc_X8_wayOf 16 rfl) fl_RX8_9 e0 ?_
    refine r_icmp_ge (dc_X8_wayOf 17 rfl) (tgt := 95) (by decide) (fun c0 => ?_) (fun c0 => ?_)
    · rw [if_pos c0] at h
      refine r_pick [2, 3, 4] (lo' := [(3, .int xL3), (4, .int xL4), (5, .int xL5)]) rfl ?_
      exact hk95 _ _ h
    · rw [if_neg c0] at h
      refine r_iload_n (dc_X8_wayOf 18 rfl) rfl rfl ?_
      refine r_iload (dc_X8_wayOf 19 rfl) rfl ?_
      refine r_iconst (dc_X8_wayOf 20 rfl) kiconst_1 ?_
      refine r_isub (dc_X8_wayOf 21 rfl) ?_
      refine r_icmp_eq (dc_X8_wayOf 22 rfl) (tgt := 95) (by decide) (fun c0 => ?_) (fun c0 => ?_)
      · rw [if_pos c0] at h
        refine r_pick [2, 3, 4] (lo' := [(3, .int xL3), (4, .int xL4), (5, .int xL5)]) rfl ?_
        exact hk95 _ _ h
      · rw [if_neg c0] at h
        refine r_aload_n (dc_X8_wayOf 23 rfl) rfl rfl ?_
        obtain ⟨p6, e0, h⟩ := Option.bind_eq_some_iff.mp h
        refine r_getR (dc_X8_wayOf 24 rfl) fl_RX8_24 e0 ?_
        refine r_iload (dc_X8_wayOf 25 rfl) rfl ?_
        obtain ⟨p7, e0, h⟩ := Option.bind_eq_some_iff.mp h
        refine r_aaldR (dc_X8_wayOf 26 rfl) (kd := 4) rfl e0 ?_
        obtain ⟨p8, e0, h⟩ := Option.bind_eq_some_iff.mp h
        refine r_getR (dc_X8_wayOf 27 rfl) fl_RX8_113 e0 ?_
        refine r_iload_n (dc_X8_wayOf 28 rfl) rfl rfl ?_
        obtain ⟨x9, e0, h⟩ := Option.bind_eq_some_iff.mp h
        refine r_callV (dc_X8_wayOf 29 rfl) mv_X1_holds ml_RX8_160 (As := [.int xL2]) (t_X1_holds (d := d - 1) hl (by omega) e0) (by omega) rfl (Nat.le_of_ble_eq_true rfl) ?_
        refine r_if_eq (dc_X8_wayOf 30 rfl) (tgt := 95) (by decide) (fun c0 => ?_) (fun c0 => ?_)
        · rw [if_pos c0] at h
          refine r_pick [2, 3, 4] (lo' := [(3, .int xL3), (4, .int xL4), (5, .int xL5)]) rfl ?_
          exact hk95 _ _ h
        · rw [if_neg c0] at h
          refine r_aload_n (dc_X8_wayOf 31 rfl) rfl rfl ?_
          obtain ⟨p10, e0, h⟩ := Option.bind_eq_some_iff.mp h
          refine r_getR (dc_X8_wayOf 32 rfl) fl_RX8_24 e0 ?_
          refine r_iload (dc_X8_wayOf 33 rfl) rfl ?_
          obtain ⟨p11, e0, h⟩ := Option.bind_eq_some_iff.mp h
          refine r_aaldR (dc_X8_wayOf 34 rfl) (kd := 4) rfl e0 ?_
          obtain ⟨p12, e0, h⟩ := Option.bind_eq_some_iff.mp h
          refine r_getR (dc_X8_wayOf 35 rfl) fl_RX8_167 e0 ?_
          refine r_iload_n (dc_X8_wayOf 36 rfl) rfl rfl ?_
          obtain ⟨x13, e0, h⟩ := Option.bind_eq_some_iff.mp h
          refine r_iald (dc_X8_wayOf 37 rfl) e0 ?_
          refine r_iload (dc_X8_wayOf 38 rfl) rfl ?_
          refine r_icmp_eq (dc_X8_wayOf 39 rfl) (tgt := 95) (by decide) (fun c0 => ?_) (fun c0 => ?_)
          · rw [if_pos c0] at h
            refine r_pick [2, 3, 4] (lo' := [(3, .int xL3), (4, .int xL4), (5, .int xL5)]) rfl ?_
            exact hk95 _ _ h
          · rw [if_neg c0] at h
            refine r_aload_n (dc_X8_wayOf 40 rfl) rfl rfl ?_
            obtain ⟨p14, e0, h⟩ := Option.bind_eq_some_iff.mp h
            refine r_getR (dc_X8_wayOf 41 rfl) fl_RX8_24 e0 ?_
            refine r_iload (dc_X8_wayOf 42 rfl) rfl ?_
            obtain ⟨p15, e0, h⟩ := Option.bind_eq_some_iff.mp h
            refine r_aaldR (dc_X8_wayOf 43 rfl) (kd := 4) rfl e0 ?_
            obtain ⟨p16, e0, h⟩ := Option.bind_eq_some_iff.mp h
            refine r_getR (dc_X8_wayOf 44 rfl) fl_RX8_167 e0 ?_
            refine r_iload_n (dc_X8_wayOf 45 rfl) rfl rfl ?_
            obtain ⟨x17, e0, h⟩ := Option.bind_eq_some_iff.mp h
            refine r_iald (dc_X8_wayOf 46 rfl) e0 ?_
            refine r_istore (dc_X8_wayOf 47 rfl) (by decide) (lo' := [(4, .int x17), (0, .ref pL0), (2, .int xL2), (3, .int xL3), (5, .int xL5)]) rfl ?_
            refine r_iinc (dc_X8_wayOf 48 rfl) rfl (kinc_1 _) (by decide) (lo' := [(5, .int (xL5 + (1 : Int32))), (4, .int x17), (0, .ref pL0), (2, .int xL2), (3, .int xL3)]) rfl ?_
            refine r_goto (dc_X8_wayOf 49 rfl) (tgt := 24) (by decide) ?_
            refine r_pick [2, 3, 4, 1, 0] (lo' := [(0, .ref pL0), (2, .int xL2), (3, .int xL3), (4, .int x17), (5, .int (xL5 + (1 : Int32)))]) rfl ?_
            exact ih _ _ h
theorem t_X8_wayOf {G : Gx} {d : Nat} (hl : G.1.stackTraces = false) (hd : 1 ≤ d) {σ : Sto} {a0 : Nat} {xa1 : Int32} {xa2 : Int32} {xa3 : Int32} {r : Int32} (h : F_X8_wayOf σ a0 xa1 xa2 xa3 = some r) : Mi G d m_X8_wayOf 8 a0 [.int xa1, .int xa2, .int xa3] σ (.inl (some (.int r))) σ := by
  rw [F_X8_wayOf] at h
  obtain ⟨hg, h⟩ := chk_some h
  refine ⟨J.toMt (lo := [(0, .ref a0), (1, .int xa1), (2, .int xa2), (3, .int xa3)]) pn_RX8 rfl hl (Nat.le_of_ble_eq_true rfl) rfl ?_, hg⟩
  refine r_aload_n (dc_X8_wayOf 0 rfl) rfl rfl ?_
  obtain ⟨p1, e0, h⟩ := Option.bind_eq_some_iff.mp h
  refine r_getR (dc_X8_wayOf 1 rfl) fl_RX8_24 e0 ?_
  refine r_iload_n (dc_X8_wayOf 2 rfl) rfl rfl ?_
  obtain ⟨p2, e0, h⟩ := Option.bind_eq_some_iff.mp h
  refine r_aaldR (dc_X8_wayOf 3 rfl) (kd := 4) rfl e0 ?_
  obtain ⟨p3, e0, h⟩ := Option.bind_eq_some_iff.mp h
  refine r_getR (dc_X8_wayOf 4 rfl) fl_RX8_113 e0 ?_
  refine r_iload_n (dc_X8_wayOf 5 rfl) rfl rfl ?_
  obtain ⟨x4, e0, h⟩ := Option.bind_eq_some_iff.mp h
  refine r_callV (dc_X8_wayOf 6 rfl) mv_X1_holds ml_RX8_160 (As := [.int xa2]) (t_X1_holds (d := d - 1) hl (by omega) e0) (by omega) rfl (Nat.le_of_ble_eq_true rfl) ?_
  refine r_if_ne (dc_X8_wayOf 7 rfl) (tgt := 18) (by decide) (fun c0 => ?_) (fun c0 => ?_)
  · rw [if_neg c0] at h
    refine r_iload_n (dc_X8_wayOf 10 rfl) rfl rfl ?_
    refine r_istore (dc_X8_wayOf 11 rfl) (by decide) (lo' := [(4, .int xa1), (0, .ref a0), (1, .int xa1), (2, .int xa2), (3, .int xa3)]) rfl ?_
    refine r_iconst (dc_X8_wayOf 12 rfl) kiconst_1 ?_
    refine r_istore (dc_X8_wayOf 13 rfl) (by decide) (lo' := [(5, .int (1 : Int32)), (4, .int xa1), (0, .ref a0), (1, .int xa1), (2, .int xa2), (3, .int xa3)]) rfl ?_
    refine r_pick [2, 4, 5, 1, 0] (lo' := [(0, .ref a0), (2, .int xa2), (3, .int xa3), (4, .int xa1), (5, .int (1 : Int32))]) rfl ?_
    refine l_X8_wayOf_L24 hl hd (hk95 := ?_) fu _ _ h
    · intro x18 x19 h
      refine r_iload_n (dc_X8_wayOf 50 rfl) rfl rfl ?_
      refine r_iconst (dc_X8_wayOf 51 rfl) kiconst_m1 ?_
      refine r_icmp_ne (dc_X8_wayOf 52 rfl) (tgt := 103) (by decide) (fun c0 => ?_) (fun c0 => ?_)
      · rw [if_neg c0] at h
        refine r_iload_n (dc_X8_wayOf 55 rfl) rfl rfl ?_
        refine r_iload (dc_X8_wayOf 56 rfl) rfl ?_
        refine r_iconst (dc_X8_wayOf 57 rfl) kiconst_1 ?_
        refine r_isub (dc_X8_wayOf 58 rfl) ?_
        refine r_icmp_ne (dc_X8_wayOf 59 rfl) (tgt := 116) (by decide) (fun c0 => ?_) (fun c0 => ?_)
        · rw [if_neg c0] at h
          refine r_iconst (dc_X8_wayOf 62 rfl) kiconst_m1 ?_
          cases h
          exact r_ireturn (dc_X8_wayOf 63 rfl) rfl
        · rw [if_pos c0] at h
          refine r_iload (dc_X8_wayOf 60 rfl) rfl ?_
          refine r_goto (dc_X8_wayOf 61 rfl) (tgt := 117) (by decide) ?_
          cases h
          exact r_ireturn (dc_X8_wayOf 63 rfl) rfl
      · rw [if_pos c0] at h
        refine r_iload (dc_X8_wayOf 53 rfl) rfl ?_
        cases h
        exact r_ireturn (dc_X8_wayOf 54 rfl) rfl
  · rw [if_pos c0] at h
    refine r_iconst (dc_X8_wayOf 8 rfl) kiconst_m1 ?_
    cases h
    exact r_ireturn (dc_X8_wayOf 9 rfl) rfl
theorem l_X8_stepsToAll_L12 {G : Gx} {d : Nat} (hl : G.1.stackTraces = false) (hd : 1 ≤ d) {sL : Sto} {pL0 : Nat} {xL1 : Int32} {r : Int32} {k42 : Int32 → Option Int32}
    (hk42 : ∀ (xL2 : Int32), k42 xL2 = some r → J G d m_X8_stepsToAll 42 [(0, .ref pL0), (1, .int xL1), (2, .int xL2)] [] sL (.inl (some (.int r))) sL)
  : ∀ (f : Nat) (xL2 : Int32) (xL3 : Int32), F_X8_stepsToAll_L12 sL pL0 xL1 f xL2 xL3 k42 = some r → J G d m_X8_stepsToAll 12 [(0, .ref pL0), (1, .int xL1), (2, .int xL2), (3, .int xL3)] [] sL (.inl (some (.int r))) sL := by
  intro f
  induction f with
  | zero => intro xL2 xL3 h; rw [F_X8_stepsToAll_L12] at h; cases h
  | succ f ih =>
    intro xL2 xL3 h
    rw [F_X8_stepsToAll_L12] at h
    refine r_iload_n (dc_X8_stepsToAll 8 rfl) rfl rfl ?_
    refine r_aload_n (dc_X8_stepsToAll 9 rfl) rfl rfl ?_
    obtain ⟨x4, e0, h⟩ := Option.bind_eq_some_iff.mp h
    refine r_getI (dc_X8_stepsToAll 10 rfl) fl_RX8_9 e0 ?_
    refine r_icmp_ge (dc_X8_stepsToAll 11 rfl) (tgt := 42) (by decide) (fun c0 => ?_) (fun c0 => ?_)
    · rw [if_pos c0] at h
      refine r_pick [0, 1, 2] (lo' := [(0, .ref pL0), (1, .int xL1), (2, .int xL2)]) rfl ?_
      exact hk42 _ h
    · rw [if_neg c0] at h
      refine r_iload_n (dc_X8_stepsToAll 12 rfl) rfl rfl ?_
      refine r_aload_n (dc_X8_stepsToAll 13 rfl) rfl rfl ?_
      obtain ⟨p5, e0, h⟩ := Option.bind_eq_some_iff.mp h
      refine r_getR (dc_X8_stepsToAll 14 rfl) fl_RX8_24 e0 ?_
      refine r_iload_n (dc_X8_stepsToAll 15 rfl) rfl rfl ?_
      obtain ⟨p6, e0, h⟩ := Option.bind_eq_some_iff.mp h
      refine r_aaldR (dc_X8_stepsToAll 16 rfl) (kd := 4) rfl e0 ?_
      obtain ⟨p7, e0, h⟩ := Option.bind_eq_some_iff.mp h
      refine r_getR (dc_X8_stepsToAll 17 rfl) fl_RX8_180 e0 ?_
      refine r_iload_n (dc_X8_stepsToAll 18 rfl) rfl rfl ?_
      obtain ⟨x8, e0, h⟩ := Option.bind_eq_some_iff.mp h
      refine r_iald (dc_X8_stepsToAll 19 rfl) e0 ?_
      refine r_mmax (dc_X8_stepsToAll 20 rfl) ml_RX8_183 w_mmax1 w_math2 w_mmax3 (by omega) (Nat.le_of_ble_eq_true rfl) ?_
      refine r_istore_n (dc_X8_stepsToAll 21 rfl) rfl (by decide) (lo' := [(2, .int (if xL2 < x8 then x8 else xL2)), (0, .ref pL0), (1, .int xL1), (3, .int xL3)]) rfl ?_
      refine r_iinc (dc_X8_stepsToAll 22 rfl) rfl (kinc_1 _) (by decide) (lo' := [(3, .int (xL3 + (1 : Int32))), (2, .int (if xL2 < x8 then x8 else xL2)), (0, .ref pL0), (1, .int xL1)]) rfl ?_
      refine r_goto (dc_X8_stepsToAll 23 rfl) (tgt := 12) (by decide) ?_
      refine r_pick [2, 3, 1, 0] (lo' := [(0, .ref pL0), (1, .int xL1), (2, .int (if xL2 < x8 then x8 else xL2)), (3, .int (xL3 + (1 : Int32)))]) rfl ?_
      exact ih _ _ h
theorem t_X8_stepsToAll {G : Gx} {d : Nat} (hl : G.1.stackTraces = false) (hd : 1 ≤ d) {σ : Sto} {a0 : Nat} {xa1 : Int32} {r : Int32} (h : F_X8_stepsToAll σ a0 xa1 = some r) : Mi G d m_X8_stepsToAll 8 a0 [.int xa1] σ (.inl (some (.int r))) σ := by
  rw [F_X8_stepsToAll] at h
  obtain ⟨hg, h⟩ := chk_some h
  refine ⟨J.toMt (lo := [(0, .ref a0), (1, .int xa1)]) pn_RX8 rfl hl (Nat.le_of_ble_eq_true rfl) rfl ?_, hg⟩
  refine r_aload_n (dc_X8_stepsToAll 0 rfl) rfl rfl ?_
  obtain ⟨p1, e0, h⟩ := Option.bind_eq_some_iff.mp h
  refine r_getR (dc_X8_stepsToAll 1 rfl) fl_RX8_18 e0 ?_
  obtain ⟨p2, e0, h⟩ := Option.bind_eq_some_iff.mp h
  refine r_getR (dc_X8_stepsToAll 2 rfl) fl_RX8_177 e0 ?_
  refine r_iload_n (dc_X8_stepsToAll 3 rfl) rfl rfl ?_
  obtain ⟨x3, e0, h⟩ := Option.bind_eq_some_iff.mp h
  refine r_iald (dc_X8_stepsToAll 4 rfl) e0 ?_
  refine r_istore_n (dc_X8_stepsToAll 5 rfl) rfl (by decide) (lo' := [(2, .int x3), (0, .ref a0), (1, .int xa1)]) rfl ?_
  refine r_iconst (dc_X8_stepsToAll 6 rfl) kiconst_0 ?_
  refine r_istore_n (dc_X8_stepsToAll 7 rfl) rfl (by decide) (lo' := [(3, .int (0 : Int32)), (2, .int x3), (0, .ref a0), (1, .int xa1)]) rfl ?_
  refine r_pick [2, 3, 1, 0] (lo' := [(0, .ref a0), (1, .int xa1), (2, .int x3), (3, .int (0 : Int32))]) rfl ?_
  refine l_X8_stepsToAll_L12 hl hd (hk42 := ?_) fu _ _ h
  · intro x9 h
    refine r_iload_n (dc_X8_stepsToAll 24 rfl) rfl rfl ?_
    refine r_aload_n (dc_X8_stepsToAll 25 rfl) rfl rfl ?_
    obtain ⟨p10, e0, h⟩ := Option.bind_eq_some_iff.mp h
    refine r_getR (dc_X8_stepsToAll 26 rfl) fl_RX8_18 e0 ?_
    obtain ⟨p11, e0, h⟩ := Option.bind_eq_some_iff.mp h
    refine r_getR (dc_X8_stepsToAll 27 rfl) fl_RX8_177 e0 ?_
    refine r_iload_n (dc_X8_stepsToAll 28 rfl) rfl rfl ?_
    obtain ⟨x12, e0, h⟩ := Option.bind_eq_some_iff.mp h
    refine r_iald (dc_X8_stepsToAll 29 rfl) e0 ?_
    refine r_isub (dc_X8_stepsToAll 30 rfl) ?_
    cases h
    exact r_ireturn (dc_X8_stepsToAll 31 rfl) rfl
theorem l_X8_slowestEvent_L4 {G : Gx} {d : Nat} (hl : G.1.stackTraces = false) (hd : 2 ≤ d) {sL : Sto} {pL0 : Nat} {r : Int32} {k53 : Int32 → Option Int32}
    (hk53 : ∀ (xL1 : Int32), k53 xL1 = some r → J G d m_X8_slowestEvent 53 [(1, .int xL1)] [] sL (.inl (some (.int r))) sL)
  : ∀ (f : Nat) (xL1 : Int32) (xL2 : Int32), F_X8_slowestEvent_L4 sL pL0 f xL1 xL2 k53 = some r → J G d m_X8_slowestEvent 4 [(0, .ref pL0), (1, .int xL1), (2, .int xL2)] [] sL (.inl (some (.int r))) sL := by
  intro f
  induction f with
  | zero => intro xL1 xL2 h; rw [F_X8_slowestEvent_L4] at h; cases h
  | succ f ih =>
    intro xL1 xL2 h
    rw [F_X8_slowestEvent_L4] at h
    refine r_iload_n (dc_X8_slowestEvent 4 rfl) rfl rfl ?_
    refine r_aload_n (dc_X8_slowestEvent 5 rfl) rfl rfl ?_
    obtain ⟨p1, e0, h⟩ := Option.bind_eq_some_iff.mp h
    refine r_getR (dc_X8_slowestEvent 6 rfl) fl_RX8_18 e0 ?_
    obtain ⟨x2, e0, h⟩ := Option.bind_eq_some_iff.mp h
    refine r_getI (dc_X8_slowestEvent 7 rfl) fl_RX8_91 e0 ?_
    refine r_icmp_ge (dc_X8_slowestEvent 8 rfl) (tgt := 53) (by decide) (fun c0 => ?_) (fun c0 => ?_)
    · rw [if_pos c0] at h
      refine r_pick [1] (lo' := [(1, .int xL1)]) rfl ?_
      exact hk53 _ h
    · rw [if_neg c0] at h
      refine r_aload_n (dc_X8_slowestEvent 9 rfl) rfl rfl ?_
      refine r_iload_n (dc_X8_slowestEvent 10 rfl) rfl rfl ?_
      obtain ⟨x3, e0, h⟩ := Option.bind_eq_some_iff.mp h
      refine r_callV (dc_X8_slowestEvent 11 rfl) mv_X8_holders ml_RX8_170 (As := [.int xL2]) (t_X8_holders (d := d - 1) hl (by omega) e0) (by omega) rfl (Nat.le_of_ble_eq_true rfl) ?_
      refine r_aload_n (dc_X8_slowestEvent 12 rfl) rfl rfl ?_
      obtain ⟨x4, e0, h⟩ := Option.bind_eq_some_iff.mp h
      refine r_getI (dc_X8_slowestEvent 13 rfl) fl_RX8_9 e0 ?_
      refine r_icmp_ne (dc_X8_slowestEvent 14 rfl) (tgt := 47) (by decide) (fun c0 => ?_) (fun c0 => ?_)
      · rw [if_neg c0] at h
        refine r_iinc (dc_X8_slowestEvent 27 rfl) rfl (kinc_1 _) (by decide) (lo' := [(2, .int (xL2 + (1 : Int32))), (0, .ref pL0), (1, .int xL1)]) rfl ?_
        refine r_goto (dc_X8_slowestEvent 28 rfl) (tgt := 4) (by decide) ?_
        refine r_pick [1, 2, 0] (lo' := [(0, .ref pL0), (1, .int xL1), (2, .int (xL2 + (1 : Int32)))]) rfl ?_
        exact ih _ _ h
      · rw [if_pos c0] at h
        refine r_iload_n (dc_X8_slowestEvent 15 rfl) rfl rfl ?_
        refine r_iconst (dc_X8_slowestEvent 16 rfl) kiconst_m1 ?_
        refine r_icmp_eq (dc_X8_slowestEvent 17 rfl) (tgt := 45) (by decide) (fun c0 => ?_) (fun c0 => ?_)
        · rw [if_pos c0] at h
          refine r_iload_n (dc_X8_slowestEvent 25 rfl) rfl rfl ?_
          refine r_istore_n (dc_X8_slowestEvent 26 rfl) rfl (by decide) (lo' := [(1, .int xL2), (0, .ref pL0), (2, .int xL2)]) rfl ?_
          refine r_iinc (dc_X8_slowestEvent 27 rfl) rfl (kinc_1 _) (by decide) (lo' := [(2, .int (xL2 + (1 : Int32))), (1, .int xL2), (0, .ref pL0)]) rfl ?_
          refine r_goto (dc_X8_slowestEvent 28 rfl) (tgt := 4) (by decide) ?_
          refine r_pick [2, 1, 0] (lo' := [(0, .ref pL0), (1, .int xL2), (2, .int (xL2 + (1 : Int32)))]) rfl ?_
          exact ih _ _ h
        · rw [if_neg c0] at h
          refine r_aload_n (dc_X8_slowestEvent 18 rfl) rfl rfl ?_
          refine r_iload_n (dc_X8_slowestEvent 19 rfl) rfl rfl ?_
          obtain ⟨x5, e0, h⟩ := Option.bind_eq_some_iff.mp h
          refine r_callV (dc_X8_slowestEvent 20 rfl) mv_X8_stepsToAll ml_RX8_174 (As := [.int xL2]) (t_X8_stepsToAll (d := d - 1) hl (by omega) e0) (by omega) rfl (Nat.le_of_ble_eq_true rfl) ?_
          refine r_aload_n (dc_X8_slowestEvent 21 rfl) rfl rfl ?_
          refine r_iload_n (dc_X8_slowestEvent 22 rfl) rfl rfl ?_
          obtain ⟨x6, e0, h⟩ := Option.bind_eq_some_iff.mp h
          refine r_callV (dc_X8_slowestEvent 23 rfl) mv_X8_stepsToAll ml_RX8_174 (As := [.int xL1]) (t_X8_stepsToAll (d := d - 1) hl (by omega) e0) (by omega) rfl (Nat.le_of_ble_eq_true rfl) ?_
          refine r_icmp_le (dc_X8_slowestEvent 24 rfl) (tgt := 47) (by decide) (fun c0 => ?_) (fun c0 => ?_)
          · rw [if_pos c0] at h
            refine r_iinc (dc_X8_slowestEvent 27 rfl) rfl (kinc_1 _) (by decide) (lo' := [(2, .int (xL2 + (1 : Int32))), (0, .ref pL0), (1, .int xL1)]) rfl ?_
            refine r_goto (dc_X8_slowestEvent 28 rfl) (tgt := 4) (by decide) ?_
            refine r_pick [1, 2, 0] (lo' := [(0, .ref pL0), (1, .int xL1), (2, .int (xL2 + (1 : Int32)))]) rfl ?_
            exact ih _ _ h
          · rw [if_neg c0] at h
            refine r_iload_n (dc_X8_slowestEvent 25 rfl) rfl rfl ?_
            refine r_istore_n (dc_X8_slowestEvent 26 rfl) rfl (by decide) (lo' := [(1, .int xL2), (0, .ref pL0), (2, .int xL2)]) rfl ?_
            refine r_iinc (dc_X8_slowestEvent 27 rfl) rfl (kinc_1 _) (by decide) (lo' := [(2, .int (xL2 + (1 : Int32))), (1, .int xL2), (0, .ref pL0)]) rfl ?_
            refine r_goto (dc_X8_slowestEvent 28 rfl) (tgt := 4) (by decide) ?_
            refine r_pick [2, 1, 0] (lo' := [(0, .ref pL0), (1, .int xL2), (2, .int (xL2 + (1 : Int32)))]) rfl ?_
            exact ih _ _ h
theorem t_X8_slowestEvent {G : Gx} {d : Nat} (hl : G.1.stackTraces = false) (hd : 2 ≤ d) {σ : Sto} {a0 : Nat} {r : Int32} (h : F_X8_slowestEvent σ a0 = some r) : Mi G d m_X8_slowestEvent 8 a0 [] σ (.inl (some (.int r))) σ := by
  rw [F_X8_slowestEvent] at h
  obtain ⟨hg, h⟩ := chk_some h
  refine ⟨J.toMt (lo := [(0, .ref a0)]) pn_RX8 rfl hl (Nat.le_of_ble_eq_true rfl) rfl ?_, hg⟩
  refine r_iconst (dc_X8_slowestEvent 0 rfl) kiconst_m1 ?_
  refine r_istore_n (dc_X8_slowestEvent 1 rfl) rfl (by decide) (lo' := [(1, .int (-1 : Int32)), (0, .ref a0)]) rfl ?_
  refine r_iconst (dc_X8_slowestEvent 2 rfl) kiconst_0 ?_
  refine r_istore_n (dc_X8_slowestEvent 3 rfl) rfl (by decide) (lo' := [(2, .int (0 : Int32)), (1, .int (-1 : Int32)), (0, .ref a0)]) rfl ?_
  refine r_pick [2, 1, 0] (lo' := [(0, .ref a0), (1, .int (-1 : Int32)), (2, .int (0 : Int32))]) rfl ?_
  refine l_X8_slowestEvent_L4 hl hd (hk53 := ?_) fu _ _ h
  · intro x7 h
    refine r_iload_n (dc_X8_slowestEvent 29 rfl) rfl rfl ?_
    cases h
    exact r_ireturn (dc_X8_slowestEvent 30 rfl) rfl
theorem l_X8_lettersThatWait_L4 {G : Gx} {d : Nat} (hl : G.1.stackTraces = false) (hd : 0 ≤ d) {sL : Sto} {pL0 : Nat} {r : Int32} {k28 : Int32 → Option Int32}
    (hk28 : ∀ (xL1 : Int32), k28 xL1 = some r → J G d m_X8_lettersThatWait 28 [(1, .int xL1)] [] sL (.inl (some (.int r))) sL)
  : ∀ (f : Nat) (xL1 : Int32) (xL2 : Int32), F_X8_lettersThatWait_L4 sL pL0 f xL1 xL2 k28 = some r → J G d m_X8_lettersThatWait 4 [(0, .ref pL0), (1, .int xL1), (2, .int xL2)] [] sL (.inl (some (.int r))) sL := by
  intro f
  induction f with
  | zero => intro xL1 xL2 h; rw [F_X8_lettersThatWait_L4] at h; cases h
  | succ f ih =>
    intro xL1 xL2 h
    rw [F_X8_lettersThatWait_L4] at h
    refine r_iload_n (dc_X8_lettersThatWait 4 rfl) rfl rfl ?_
    refine r_bipush (dc_X8_lettersThatWait 5 rfl) kbipush_25 ?_
    refine r_icmp_ge (dc_X8_lettersThatWait 6 rfl) (tgt := 28) (by decide) (fun c0 => ?_) (fun c0 => ?_)
    · rw [if_pos c0] at h
      refine r_pick [1] (lo' := [(1, .int xL1)]) rfl ?_
      exact hk28 _ h
    · rw [if_neg c0] at h
      refine r_iload_n (dc_X8_lettersThatWait 7 rfl) rfl rfl ?_
      refine r_aload_n (dc_X8_lettersThatWait 8 rfl) rfl rfl ?_
      obtain ⟨p1, e0, h⟩ := Option.bind_eq_some_iff.mp h
      refine r_getR (dc_X8_lettersThatWait 9 rfl) fl_RX8_33 e0 ?_
      refine r_iload_n (dc_X8_lettersThatWait 10 rfl) rfl rfl ?_
      obtain ⟨p2, e0, h⟩ := Option.bind_eq_some_iff.mp h
      refine r_aaldR (dc_X8_lettersThatWait 11 rfl) (kd := 5) rfl e0 ?_
      obtain ⟨x3, e0, h⟩ := Option.bind_eq_some_iff.mp h
      refine r_getI (dc_X8_lettersThatWait 12 rfl) fl_RX8_59 e0 ?_
      refine r_iadd (dc_X8_lettersThatWait 13 rfl) ?_
      refine r_istore_n (dc_X8_lettersThatWait 14 rfl) rfl (by decide) (lo' := [(1, .int (xL1 + x3)), (0, .ref pL0), (2, .int xL2)]) rfl ?_
      refine r_iinc (dc_X8_lettersThatWait 15 rfl) rfl (kinc_1 _) (by decide) (lo' := [(2, .int (xL2 + (1 : Int32))), (1, .int (xL1 + x3)), (0, .ref pL0)]) rfl ?_
      refine r_goto (dc_X8_lettersThatWait 16 rfl) (tgt := 4) (by decide) ?_
      refine r_pick [2, 1, 0] (lo' := [(0, .ref pL0), (1, .int (xL1 + x3)), (2, .int (xL2 + (1 : Int32)))]) rfl ?_
      exact ih _ _ h
theorem t_X8_lettersThatWait {G : Gx} {d : Nat} (hl : G.1.stackTraces = false) (hd : 0 ≤ d) {σ : Sto} {a0 : Nat} {r : Int32} (h : F_X8_lettersThatWait σ a0 = some r) : Mi G d m_X8_lettersThatWait 8 a0 [] σ (.inl (some (.int r))) σ := by
  rw [F_X8_lettersThatWait] at h
  obtain ⟨hg, h⟩ := chk_some h
  refine ⟨J.toMt (lo := [(0, .ref a0)]) pn_RX8 rfl hl (Nat.le_of_ble_eq_true rfl) rfl ?_, hg⟩
  refine r_iconst (dc_X8_lettersThatWait 0 rfl) kiconst_0 ?_
  refine r_istore_n (dc_X8_lettersThatWait 1 rfl) rfl (by decide) (lo' := [(1, .int (0 : Int32)), (0, .ref a0)]) rfl ?_
  refine r_iconst (dc_X8_lettersThatWait 2 rfl) kiconst_0 ?_
  refine r_istore_n (dc_X8_lettersThatWait 3 rfl) rfl (by decide) (lo' := [(2, .int (0 : Int32)), (1, .int (0 : Int32)), (0, .ref a0)]) rfl ?_
  refine r_pick [2, 1, 0] (lo' := [(0, .ref a0), (1, .int (0 : Int32)), (2, .int (0 : Int32))]) rfl ?_
  refine l_X8_lettersThatWait_L4 hl hd (hk28 := ?_) fu _ _ h
  · intro x4 h
    refine r_iload_n (dc_X8_lettersThatWait 17 rfl) rfl rfl ?_
    cases h
    exact r_ireturn (dc_X8_lettersThatWait 18 rfl) rfl
theorem l_X8_viewsAreAlike_L2 {G : Gx} {d : Nat} (hl : G.1.stackTraces = false) (hd : 1 ≤ d) {sL : Sto} {pL0 : Nat} {r : Int32} {k42 : Option Int32}
    (hk42 : k42  = some r → J G d m_X8_viewsAreAlike 42 [] [] sL (.inl (some (.int r))) sL)
  : ∀ (f : Nat) (xL1 : Int32), F_X8_viewsAreAlike_L2 sL pL0 f xL1 k42 = some r → J G d m_X8_viewsAreAlike 2 [(0, .ref pL0), (1, .int xL1)] [] sL (.inl (some (.int r))) sL := by
  intro f
  induction f with
  | zero => intro xL1 h; rw [F_X8_viewsAreAlike_L2] at h; cases h
  | succ f ih =>
    intro xL1 h
    rw [F_X8_viewsAreAlike_L2] at h
    refine r_iload_n (dc_X8_viewsAreAlike 2 rfl) rfl rfl ?_
    refine r_aload_n (dc_X8_viewsAreAlike 3 rfl) rfl rfl ?_
    obtain ⟨x1, e0, h⟩ := Option.bind_eq_some_iff.mp h
    refine r_getI (dc_X8_viewsAreAlike 4 rfl) fl_RX8_9 e0 ?_
    refine r_icmp_ge (dc_X8_viewsAreAlike 5 rfl) (tgt := 42) (by decide) (fun c0 => ?_) (fun c0 => ?_)
    · rw [if_pos c0] at h
      refine r_pick [] (lo' := []) rfl ?_
      exact hk42  h
    · rw [if_neg c0] at h
      refine r_aload_n (dc_X8_viewsAreAlike 6 rfl) rfl rfl ?_
      obtain ⟨p2, e0, h⟩ := Option.bind_eq_some_iff.mp h
      refine r_getR (dc_X8_viewsAreAlike 7 rfl) fl_RX8_24 e0 ?_
      refine r_iload_n (dc_X8_viewsAreAlike 8 rfl) rfl rfl ?_
      obtain ⟨p3, e0, h⟩ := Option.bind_eq_some_iff.mp h
      refine r_aaldR (dc_X8_viewsAreAlike 9 rfl) (kd := 4) rfl e0 ?_
      obtain ⟨p4, e0, h⟩ := Option.bind_eq_some_iff.mp h
      refine r_getR (dc_X8_viewsAreAlike 10 rfl) fl_RX8_96 e0 ?_
      refine r_aload_n (dc_X8_viewsAreAlike 11 rfl) rfl rfl ?_
      obtain ⟨p5, e0, h⟩ := Option.bind_eq_some_iff.mp h
      refine r_getR (dc_X8_viewsAreAlike 12 rfl) fl_RX8_24 e0 ?_
      refine r_iconst (dc_X8_viewsAreAlike 13 rfl) kiconst_0 ?_
      obtain ⟨p6, e0, h⟩ := Option.bind_eq_some_iff.mp h
      refine r_aaldR (dc_X8_viewsAreAlike 14 rfl) (kd := 4) rfl e0 ?_
      obtain ⟨p7, e0, h⟩ := Option.bind_eq_some_iff.mp h
      refine r_getR (dc_X8_viewsAreAlike 15 rfl) fl_RX8_96 e0 ?_
      obtain ⟨x8, e0, h⟩ := Option.bind_eq_some_iff.mp h
      refine r_callV (dc_X8_viewsAreAlike 16 rfl) mv_X1_sameAs ml_RX8_188 (As := [.ref p7]) (t_X1_sameAs (d := d - 1) hl (by omega) e0) (by omega) rfl (Nat.le_of_ble_eq_true rfl) ?_
      refine r_if_ne (dc_X8_viewsAreAlike 17 rfl) (tgt := 36) (by decide) (fun c0 => ?_) (fun c0 => ?_)
      · rw [if_neg c0] at h
        refine r_iinc (dc_X8_viewsAreAlike 20 rfl) rfl (kinc_1 _) (by decide) (lo' := [(1, .int (xL1 + (1 : Int32))), (0, .ref pL0)]) rfl ?_
        refine r_goto (dc_X8_viewsAreAlike 21 rfl) (tgt := 2) (by decide) ?_
        refine r_pick [1, 0] (lo' := [(0, .ref pL0), (1, .int (xL1 + (1 : Int32)))]) rfl ?_
        exact ih _ h
      · rw [if_pos c0] at h
        refine r_iconst (dc_X8_viewsAreAlike 18 rfl) kiconst_0 ?_
        cases h
        exact r_zreturn (dc_X8_viewsAreAlike 19 rfl) rfl (Or.inl rfl)
theorem t_X8_viewsAreAlike {G : Gx} {d : Nat} (hl : G.1.stackTraces = false) (hd : 1 ≤ d) {σ : Sto} {a0 : Nat} {r : Int32} (h : F_X8_viewsAreAlike σ a0 = some r) : Mi G d m_X8_viewsAreAlike 8 a0 [] σ (.inl (some (.int r))) σ := by
  rw [F_X8_viewsAreAlike] at h
  obtain ⟨hg, h⟩ := chk_some h
  refine ⟨J.toMt (lo := [(0, .ref a0)]) pn_RX8 rfl hl (Nat.le_of_ble_eq_true rfl) rfl ?_, hg⟩
  refine r_iconst (dc_X8_viewsAreAlike 0 rfl) kiconst_1 ?_
  refine r_istore_n (dc_X8_viewsAreAlike 1 rfl) rfl (by decide) (lo' := [(1, .int (1 : Int32)), (0, .ref a0)]) rfl ?_
  refine r_pick [1, 0] (lo' := [(0, .ref a0), (1, .int (1 : Int32))]) rfl ?_
  refine l_X8_viewsAreAlike_L2 hl hd (hk42 := ?_) fu _ h
  · intro h
    refine r_iconst (dc_X8_viewsAreAlike 22 rfl) kiconst_1 ?_
    cases h
    exact r_zreturn (dc_X8_viewsAreAlike 23 rfl) rfl (Or.inr rfl)
theorem l_X8_cutLinks_L16 {G : Gx} {d : Nat} (hl : G.1.stackTraces = false) (hd : 2 ≤ d) {sL : Sto} {pL0 : Nat} {xL2 : Int32} {r : Int32} {k42 : Int32 → Option Int32}
    (hk42 : ∀ (xL1 : Int32), k42 xL1 = some r → J G d m_X8_cutLinks 42 [(0, .ref pL0), (1, .int xL1), (2, .int xL2)] [] sL (.inl (some (.int r))) sL)
  : ∀ (f : Nat) (xL1 : Int32) (xL3 : Int32), F_X8_cutLinks_L16 sL pL0 xL2 f xL1 xL3 k42 = some r → J G d m_X8_cutLinks 16 [(0, .ref pL0), (1, .int xL1), (2, .int xL2), (3, .int xL3)] [] sL (.inl (some (.int r))) sL := by
  intro f
  induction f with
  | zero => intro xL1 xL3 h; rw [F_X8_cutLinks_L16] at h; cases h
  | succ f ih =>
    intro xL1 xL3 h
    rw [F_X8_cutLinks_L16] at h
    refine r_iload_n (dc_X8_cutLinks 12 rfl) rfl rfl ?_
    refine r_aload_n (dc_X8_cutLinks 13 rfl) rfl rfl ?_
    obtain ⟨x2, e0, h⟩ := Option.bind_eq_some_iff.mp h
    refine r_getI (dc_X8_cutLinks 14 rfl) fl_RX8_9 e0 ?_
    refine r_icmp_ge (dc_X8_cutLinks 15 rfl) (tgt := 42) (by decide) (fun c0 => ?_) (fun c0 => ?_)
    · rw [if_pos c0] at h
      refine r_pick [0, 1, 2] (lo' := [(0, .ref pL0), (1, .int xL1), (2, .int xL2)]) rfl ?_
      exact hk42 _ h
    · rw [if_neg c0] at h
      refine r_aload_n (dc_X8_cutLinks 16 rfl) rfl rfl ?_
      refine r_iload_n (dc_X8_cutLinks 17 rfl) rfl rfl ?_
      refine r_iload_n (dc_X8_cutLinks 18 rfl) rfl rfl ?_
      obtain ⟨x3, e0, h⟩ := Option.bind_eq_some_iff.mp h
      refine r_callV (dc_X8_cutLinks 19 rfl) mv_X8_isCut ml_RX8_87 (As := [.int xL2, .int xL3]) (t_X8_isCut (d := d - 1) hl (by omega) e0) (by omega) rfl (Nat.le_of_ble_eq_true rfl) ?_
      refine r_if_eq (dc_X8_cutLinks 20 rfl) (tgt := 36) (by decide) (fun c0 => ?_) (fun c0 => ?_)
      · rw [if_pos c0] at h
        refine r_iinc (dc_X8_cutLinks 22 rfl) rfl (kinc_1 _) (by decide) (lo' := [(3, .int (xL3 + (1 : Int32))), (0, .ref pL0), (1, .int xL1), (2, .int xL2)]) rfl ?_
        refine r_goto (dc_X8_cutLinks 23 rfl) (tgt := 16) (by decide) ?_
        refine r_pick [1, 2, 3, 0] (lo' := [(0, .ref pL0), (1, .int xL1), (2, .int xL2), (3, .int (xL3 + (1 : Int32)))]) rfl ?_
        exact ih _ _ h
      · rw [if_neg c0] at h
        refine r_iinc (dc_X8_cutLinks 21 rfl) rfl (kinc_1 _) (by decide) (lo' := [(1, .int (xL1 + (1 : Int32))), (0, .ref pL0), (2, .int xL2), (3, .int xL3)]) rfl ?_
        refine r_iinc (dc_X8_cutLinks 22 rfl) rfl (kinc_1 _) (by decide) (lo' := [(3, .int (xL3 + (1 : Int32))), (1, .int (xL1 + (1 : Int32))), (0, .ref pL0), (2, .int xL2)]) rfl ?_
        refine r_goto (dc_X8_cutLinks 23 rfl) (tgt := 16) (by decide) ?_
        refine r_pick [2, 1, 3, 0] (lo' := [(0, .ref pL0), (1, .int (xL1 + (1 : Int32))), (2, .int xL2), (3, .int (xL3 + (1 : Int32)))]) rfl ?_
        exact ih _ _ h
theorem l_X8_cutLinks_L4 {G : Gx} {d : Nat} (hl : G.1.stackTraces = false) (hd : 2 ≤ d) {sL : Sto} {pL0 : Nat} {r : Int32} {k48 : Int32 → Option Int32}
    (hk48 : ∀ (xL1 : Int32), k48 xL1 = some r → J G d m_X8_cutLinks 48 [(1, .int xL1)] [] sL (.inl (some (.int r))) sL)
  : ∀ (f : Nat) (xL1 : Int32) (xL2 : Int32), F_X8_cutLinks_L4 sL pL0 f xL1 xL2 k48 = some r → J G d m_X8_cutLinks 4 [(0, .ref pL0), (1, .int xL1), (2, .int xL2)] [] sL (.inl (some (.int r))) sL := by
  intro f
  induction f with
  | zero => intro xL1 xL2 h; rw [F_X8_cutLinks_L4] at h; cases h
  | succ f ih =>
    intro xL1 xL2 h
    rw [F_X8_cutLinks_L4] at h
    refine r_iload_n (dc_X8_cutLinks 4 rfl) rfl rfl ?_
    refine r_aload_n (dc_X8_cutLinks 5 rfl) rfl rfl ?_
    obtain ⟨x1, e0, h⟩ := Option.bind_eq_some_iff.mp h
    refine r_getI (dc_X8_cutLinks 6 rfl) fl_RX8_9 e0 ?_
    refine r_icmp_ge (dc_X8_cutLinks 7 rfl) (tgt := 48) (by decide) (fun c0 => ?_) (fun c0 => ?_)
    · rw [if_pos c0] at h
      refine r_pick [1] (lo' := [(1, .int xL1)]) rfl ?_
      exact hk48 _ h
    · rw [if_neg c0] at h
      refine r_iload_n (dc_X8_cutLinks 8 rfl) rfl rfl ?_
      refine r_iconst (dc_X8_cutLinks 9 rfl) kiconst_1 ?_
      refine r_iadd (dc_X8_cutLinks 10 rfl) ?_
      refine r_istore_n (dc_X8_cutLinks 11 rfl) rfl (by decide) (lo' := [(3, .int (xL2 + (1 : Int32))), (0, .ref pL0), (1, .int xL1), (2, .int xL2)]) rfl ?_
      refine r_pick [1, 2, 3, 0] (lo' := [(0, .ref pL0), (1, .int xL1), (2, .int xL2), (3, .int (xL2 + (1 : Int32)))]) rfl ?_
      refine l_X8_cutLinks_L16 hl hd (hk42 := ?_) fu _ _ h
      · intro x4 h
        refine r_iinc (dc_X8_cutLinks 24 rfl) rfl (kinc_1 _) (by decide) (lo' := [(2, .int (xL2 + (1 : Int32))), (0, .ref pL0), (1, .int x4)]) rfl ?_
        refine r_goto (dc_X8_cutLinks 25 rfl) (tgt := 4) (by decide) ?_
        refine r_pick [1, 2, 0] (lo' := [(0, .ref pL0), (1, .int x4), (2, .int (xL2 + (1 : Int32)))]) rfl ?_
        exact ih _ _ h
theorem t_X8_cutLinks {G : Gx} {d : Nat} (hl : G.1.stackTraces = false) (hd : 2 ≤ d) {σ : Sto} {a0 : Nat} {r : Int32} (h : F_X8_cutLinks σ a0 = some r) : Mi G d m_X8_cutLinks 8 a0 [] σ (.inl (some (.int r))) σ := by
  rw [F_X8_cutLinks] at h
  obtain ⟨hg, h⟩ := chk_some h
  refine ⟨J.toMt (lo := [(0, .ref a0)]) pn_RX8 rfl hl (Nat.le_of_ble_eq_true rfl) rfl ?_, hg⟩
  refine r_iconst (dc_X8_cutLinks 0 rfl) kiconst_0 ?_
  refine r_istore_n (dc_X8_cutLinks 1 rfl) rfl (by decide) (lo' := [(1, .int (0 : Int32)), (0, .ref a0)]) rfl ?_
  refine r_iconst (dc_X8_cutLinks 2 rfl) kiconst_0 ?_
  refine r_istore_n (dc_X8_cutLinks 3 rfl) rfl (by decide) (lo' := [(2, .int (0 : Int32)), (1, .int (0 : Int32)), (0, .ref a0)]) rfl ?_
  refine r_pick [2, 1, 0] (lo' := [(0, .ref a0), (1, .int (0 : Int32)), (2, .int (0 : Int32))]) rfl ?_
  refine l_X8_cutLinks_L4 hl hd (hk48 := ?_) fu _ _ h
  · intro x5 h
    refine r_iload_n (dc_X8_cutLinks 26 rfl) rfl rfl ?_
    cases h
    exact r_ireturn (dc_X8_cutLinks 27 rfl) rfl
