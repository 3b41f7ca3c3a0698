theorem t_X10_doesHave {G : Gx} {d : Nat} (hl : G.1.stackTraces = false) (hd : 2 ≤ d) {σ : Sto} {a0 : Nat} {xa1 : Int32} {xa2 : Int32} {xa3 : Int32} {r : Int32} (h : F_X10_doesHave σ a0 xa1 xa2 xa3 = some r) : Mi G d m_X10_doesHave 10 a0 [.int xa1, .int xa2, .int xa3] σ (.inl (some (.int r))) σ := by
  rw [F_X10_doesHave] at h
  obtain ⟨hg, h⟩ := chk_some h
  refine ⟨J.toMt (lo := [(0, .ref a0), (1, .int xa1), (2, .int xa2), (3, .int xa3)]) pn_RX10 rfl hl (Nat.le_of_ble_eq_true rfl) rfl ?_, hg⟩
  refine r_aload_n (dc_X10_doesHave 0 rfl) rfl rfl ?_
  refine r_iload_n (dc_X10_doesHave 1 rfl) rfl rfl ?_
  obtain ⟨x1, e0, h⟩ := Option.bind_eq_some_iff.mp h
  refine r_callS (dc_X10_doesHave 2 rfl) ms_X10_stateOf ml_RX10_111 (As := [.int xa1]) (t_X10_stateOf (d := d - 1) hl (by omega) e0) (by omega) rfl (Nat.le_of_ble_eq_true rfl) ?_
  refine r_bipush (dc_X10_doesHave 3 rfl) kbipush_25 ?_
  refine r_iadd (dc_X10_doesHave 4 rfl) ?_
  refine r_iload_n (dc_X10_doesHave 5 rfl) rfl rfl ?_
  obtain ⟨x2, e0, h⟩ := Option.bind_eq_some_iff.mp h
  refine r_callV (dc_X10_doesHave 6 rfl) mv_X10_isOf ml_RX10_70 (As := [.int (x1 + (25 : Int32)), .int xa2]) (t_X10_isOf (d := d - 1) hl (by omega) e0) (by omega) rfl (Nat.le_of_ble_eq_true rfl) ?_
  refine r_iload_n (dc_X10_doesHave 7 rfl) rfl rfl ?_
  refine r_icmp_ne (dc_X10_doesHave 8 rfl) (tgt := 20) (by decide) (fun c0 => ?_) (fun c0 => ?_)
  · rw [if_neg c0] at h
    refine r_iconst (dc_X10_doesHave 11 rfl) kiconst_0 ?_
    cases h
    exact r_zreturn (dc_X10_doesHave 12 rfl) rfl (Or.inl rfl)
  · rw [if_pos c0] at h
    refine r_iconst (dc_X10_doesHave 9 rfl) kiconst_1 ?_
    refine r_goto (dc_X10_doesHave 10 rfl) (tgt := 21) (by decide) ?_
    cases h
    exact r_zreturn (dc_X10_doesHave 12 rfl) rfl (Or.inr rfl)
theorem t_X10_logs {G : Gx} {d : Nat} (hl : G.1.stackTraces = false) (hd : 1 ≤ d) {σ : Sto} {a0 : Nat} {xa1 : Int32} {xa2 : Int32} {r : Sto} (h : F_X10_logs σ a0 xa1 xa2 = some r) : Mi G d m_X10_logs 10 a0 [.int xa1, .int xa2] σ (.inl none) r := by
  rw [F_X10_logs] at h
  obtain ⟨hg, h⟩ := chk_some h
  refine ⟨J.toMt (lo := [(0, .ref a0), (1, .int xa1), (2, .int xa2)]) pn_RX10 rfl hl (Nat.le_of_ble_eq_true rfl) rfl ?_, hg⟩
  refine r_iload_n (dc_X10_logs 0 rfl) rfl rfl ?_
  obtain ⟨x1, e0, h⟩ := Option.bind_eq_some_iff.mp h
  refine r_callS (dc_X10_logs 1 rfl) ms_X10_stateOf ml_RX10_111 (As := [.int xa1]) (t_X10_stateOf (d := d - 1) hl (by omega) e0) (by omega) rfl (Nat.le_of_ble_eq_true rfl) ?_
  refine r_istore_n (dc_X10_logs 2 rfl) rfl (by decide) (lo' := [(3, .int x1), (0, .ref a0), (1, .int xa1), (2, .int xa2)]) rfl ?_
  refine r_aload_n (dc_X10_logs 3 rfl) rfl rfl ?_
  refine r_iload_n (dc_X10_logs 4 rfl) rfl rfl ?_
  refine r_bipush (dc_X10_logs 5 rfl) kbipush_34 ?_
  refine r_iadd (dc_X10_logs 6 rfl) ?_
  refine r_aload_n (dc_X10_logs 7 rfl) rfl rfl ?_
  refine r_iload_n (dc_X10_logs 8 rfl) rfl rfl ?_
  refine r_bipush (dc_X10_logs 9 rfl) kbipush_33 ?_
  refine r_iadd (dc_X10_logs 10 rfl) ?_
  obtain ⟨x2, e0, h⟩ := Option.bind_eq_some_iff.mp h
  refine r_callV (dc_X10_logs 11 rfl) mv_X10_of ml_RX10_62 (As := [.int (x1 + (33 : Int32))]) (t_X10_of (d := d - 1) hl (by omega) e0) (by omega) rfl (Nat.le_of_ble_eq_true rfl) ?_
  refine r_iadd (dc_X10_logs 12 rfl) ?_
  refine r_iload_n (dc_X10_logs 13 rfl) rfl rfl ?_
  obtain ⟨s3, e0, h⟩ := Option.bind_eq_some_iff.mp h
  refine r_callV (dc_X10_logs 14 rfl) mv_X10_set ml_RX10_66 (As := [.int ((x1 + (34 : Int32)) + x2), .int xa2]) (t_X10_set (d := d - 1) hl (by omega) e0) (by omega) rfl (Nat.le_of_ble_eq_true rfl) ?_
  refine r_aload_n (dc_X10_logs 15 rfl) rfl rfl ?_
  refine r_iload_n (dc_X10_logs 16 rfl) rfl rfl ?_
  refine r_bipush (dc_X10_logs 17 rfl) kbipush_33 ?_
  refine r_iadd (dc_X10_logs 18 rfl) ?_
  refine r_iconst (dc_X10_logs 19 rfl) kiconst_1 ?_
  obtain ⟨s4, e0, h⟩ := Option.bind_eq_some_iff.mp h
  refine r_callV (dc_X10_logs 20 rfl) mv_X10_more ml_RX10_124 (As := [.int (x1 + (33 : Int32)), .int (1 : Int32)]) (t_X10_more (d := d - 1) hl (by omega) e0) (by omega) rfl (Nat.le_of_ble_eq_true rfl) ?_
  cases h
  exact r_vreturn (dc_X10_logs 21 rfl) rfl
theorem t_X10_comesToHave {G : Gx} {d : Nat} (hl : G.1.stackTraces = false) (hd : 2 ≤ d) {σ : Sto} {a0 : Nat} {xa1 : Int32} {xa2 : Int32} {xa3 : Int32} {r : Sto} (h : F_X10_comesToHave σ a0 xa1 xa2 xa3 = some r) : Mi G d m_X10_comesToHave 10 a0 [.int xa1, .int xa2, .int xa3] σ (.inl none) r := by
  rw [F_X10_comesToHave] at h
  obtain ⟨hg, h⟩ := chk_some h
  refine ⟨J.toMt (lo := [(0, .ref a0), (1, .int xa1), (2, .int xa2), (3, .int xa3)]) pn_RX10 rfl hl (Nat.le_of_ble_eq_true rfl) rfl ?_, hg⟩
  refine r_iload_n (dc_X10_comesToHave 0 rfl) rfl rfl ?_
  obtain ⟨x1, e0, h⟩ := Option.bind_eq_some_iff.mp h
  refine r_callS (dc_X10_comesToHave 1 rfl) ms_X10_stateOf ml_RX10_111 (As := [.int xa1]) (t_X10_stateOf (d := d - 1) hl (by omega) e0) (by omega) rfl (Nat.le_of_ble_eq_true rfl) ?_
  refine r_istore (dc_X10_comesToHave 2 rfl) (by decide) (lo' := [(4, .int x1), (0, .ref a0), (1, .int xa1), (2, .int xa2), (3, .int xa3)]) rfl ?_
  refine r_aload_n (dc_X10_comesToHave 3 rfl) rfl rfl ?_
  refine r_iload (dc_X10_comesToHave 4 rfl) rfl ?_
  refine r_bipush (dc_X10_comesToHave 5 rfl) kbipush_25 ?_
  refine r_iadd (dc_X10_comesToHave 6 rfl) ?_
  refine r_iload_n (dc_X10_comesToHave 7 rfl) rfl rfl ?_
  obtain ⟨x2, e0, h⟩ := Option.bind_eq_some_iff.mp h
  refine r_callV (dc_X10_comesToHave 8 rfl) mv_X10_isOf ml_RX10_70 (As := [.int (x1 + (25 : Int32)), .int xa2]) (t_X10_isOf (d := d - 1) hl (by omega) e0) (by omega) rfl (Nat.le_of_ble_eq_true rfl) ?_
  refine r_if_eq (dc_X10_comesToHave 9 rfl) (tgt := 20) (by decide) (fun c0 => ?_) (fun c0 => ?_)
  · rw [if_pos c0] at h
    refine r_aload_n (dc_X10_comesToHave 11 rfl) rfl rfl ?_
    refine r_iload (dc_X10_comesToHave 12 rfl) rfl ?_
    refine r_bipush (dc_X10_comesToHave 13 rfl) kbipush_25 ?_
    refine r_iadd (dc_X10_comesToHave 14 rfl) ?_
    refine r_iload_n (dc_X10_comesToHave 15 rfl) rfl rfl ?_
    refine r_iconst (dc_X10_comesToHave 16 rfl) kiconst_1 ?_
    obtain ⟨s3, e0, h⟩ := Option.bind_eq_some_iff.mp h
    refine r_callV (dc_X10_comesToHave 17 rfl) mv_X10_sets ml_RX10_127 (As := [.int (x1 + (25 : Int32)), .int xa2, .int (1 : Int32)]) (t_X10_sets (d := d - 1) hl (by omega) e0) (by omega) rfl (Nat.le_of_ble_eq_true rfl) ?_
    refine r_aload_n (dc_X10_comesToHave 18 rfl) rfl rfl ?_
    refine r_iload (dc_X10_comesToHave 19 rfl) rfl ?_
    refine r_sipush (dc_X10_comesToHave 20 rfl) ksipush_154 ?_
    refine r_iadd (dc_X10_comesToHave 21 rfl) ?_
    refine r_iload_n (dc_X10_comesToHave 22 rfl) rfl rfl ?_
    refine r_iadd (dc_X10_comesToHave 23 rfl) ?_
    refine r_aload_n (dc_X10_comesToHave 24 rfl) rfl rfl ?_
    refine r_bipush (dc_X10_comesToHave 25 rfl) kbipush_6 ?_
    obtain ⟨x4, e0, h⟩ := Option.bind_eq_some_iff.mp h
    refine r_callV (dc_X10_comesToHave 26 rfl) mv_X10_of ml_RX10_62 (As := [.int (6 : Int32)]) (t_X10_of (d := d - 1) hl (by omega) e0) (by omega) rfl (Nat.le_of_ble_eq_true rfl) ?_
    obtain ⟨s5, e0, h⟩ := Option.bind_eq_some_iff.mp h
    refine r_callV (dc_X10_comesToHave 27 rfl) mv_X10_set ml_RX10_66 (As := [.int ((x1 + (154 : Int32)) + xa2), .int x4]) (t_X10_set (d := d - 1) hl (by omega) e0) (by omega) rfl (Nat.le_of_ble_eq_true rfl) ?_
    refine r_aload_n (dc_X10_comesToHave 28 rfl) rfl rfl ?_
    refine r_iload (dc_X10_comesToHave 29 rfl) rfl ?_
    refine r_sipush (dc_X10_comesToHave 30 rfl) ksipush_274 ?_
    refine r_iadd (dc_X10_comesToHave 31 rfl) ?_
    refine r_iload_n (dc_X10_comesToHave 32 rfl) rfl rfl ?_
    refine r_iadd (dc_X10_comesToHave 33 rfl) ?_
    refine r_iload_n (dc_X10_comesToHave 34 rfl) rfl rfl ?_
    obtain ⟨s6, e0, h⟩ := Option.bind_eq_some_iff.mp h
    refine r_callV (dc_X10_comesToHave 35 rfl) mv_X10_set ml_RX10_66 (As := [.int ((x1 + (274 : Int32)) + xa2), .int xa3]) (t_X10_set (d := d - 1) hl (by omega) e0) (by omega) rfl (Nat.le_of_ble_eq_true rfl) ?_
    cases h
    exact r_vreturn (dc_X10_comesToHave 36 rfl) rfl
  · rw [if_neg c0] at h
    cases h
    exact r_vreturn (dc_X10_comesToHave 10 rfl) rfl
theorem l_X10_happens_L111 {G : Gx} {d : Nat} (hl : G.1.stackTraces = false) (hd : 3 ≤ d) {pL0 : Nat} {xL1 : Int32} {xL2 : Int32} {xL3 : Int32} {xL5 : Int32} {xL6 : Int32} {xL7 : Int32} {r : (Int32 × Sto)} {k147 : Sto → Option (Int32 × Sto)}
    (hk147 : ∀ (sL : Sto), k147 sL = some r → J G d m_X10_happens 147 [(0, .ref pL0), (1, .int xL1), (2, .int xL2), (3, .int xL3), (5, .int xL5), (7, .int xL7)] [] sL (.inl (some (.int r.1))) r.2)
  : ∀ (f : Nat) (xL8 : Int32) (sL : Sto), F_X10_happens_L111 pL0 xL6 xL7 f xL8 sL k147 = some r → J G d m_X10_happens 111 [(0, .ref pL0), (1, .int xL1), (2, .int xL2), (3, .int xL3), (5, .int xL5), (6, .int xL6), (7, .int xL7), (8, .int xL8)] [] sL (.inl (some (.int r.1))) r.2 := by
  intro f
  induction f with
  | zero => intro xL8 sL h; rw [F_X10_happens_L111] at h; cases h
  | succ f ih =>
    intro xL8 sL h
    rw [F_X10_happens_L111] at h
    refine r_iload (dc_X10_happens 63 rfl) rfl ?_
    refine r_iconst (dc_X10_happens 64 rfl) kiconst_4 ?_
    refine r_icmp_ge (dc_X10_happens 65 rfl) (tgt := 147) (by decide) (fun c0 => ?_) (fun c0 => ?_)
    · rw [if_pos c0] at h
      refine r_pick [0, 1, 2, 3, 4, 6] (lo' := [(0, .ref pL0), (1, .int xL1), (2, .int xL2), (3, .int xL3), (5, .int xL5), (7, .int xL7)]) rfl ?_
      exact hk147 _ h
    · rw [if_neg c0] at h
      refine r_aload_n (dc_X10_happens 66 rfl) rfl rfl ?_
      refine r_iload (dc_X10_happens 67 rfl) rfl ?_
      refine r_bipush (dc_X10_happens 68 rfl) kbipush_6 ?_
      refine r_iadd (dc_X10_happens 69 rfl) ?_
      refine r_iload (dc_X10_happens 70 rfl) rfl ?_
      refine r_iadd (dc_X10_happens 71 rfl) ?_
      refine r_aload_n (dc_X10_happens 72 rfl) rfl rfl ?_
      refine r_iload (dc_X10_happens 73 rfl) rfl ?_
      refine r_bipush (dc_X10_happens 74 rfl) kbipush_25 ?_
      refine r_iadd (dc_X10_happens 75 rfl) ?_
      refine r_iload (dc_X10_happens 76 rfl) rfl ?_
      refine r_iadd (dc_X10_happens 77 rfl) ?_
      obtain ⟨x18, e0, h⟩ := Option.bind_eq_some_iff.mp h
      refine r_callV (dc_X10_happens 78 rfl) mv_X10_of ml_RX10_62 (As := [.int ((xL7 + (25 : Int32)) + xL8)]) (t_X10_of (d := d - 1) hl (by omega) e0) (by omega) rfl (Nat.le_of_ble_eq_true rfl) ?_
      obtain ⟨s19, e0, h⟩ := Option.bind_eq_some_iff.mp h
      refine r_callV (dc_X10_happens 79 rfl) mv_X10_set ml_RX10_66 (As := [.int ((xL6 + (6 : Int32)) + xL8), .int x18]) (t_X10_set (d := d - 1) hl (by omega) e0) (by omega) rfl (Nat.le_of_ble_eq_true rfl) ?_
      refine r_iinc (dc_X10_happens 80 rfl) rfl (kinc_1 _) (by decide) (lo' := [(8, .int (xL8 + (1 : Int32))), (0, .ref pL0), (1, .int xL1), (2, .int xL2), (3, .int xL3), (5, .int xL5), (6, .int xL6), (7, .int xL7)]) rfl ?_
      refine r_goto (dc_X10_happens 81 rfl) (tgt := 111) (by decide) ?_
      refine r_pick [1, 2, 3, 4, 5, 6, 7, 0] (lo' := [(0, .ref pL0), (1, .int xL1), (2, .int xL2), (3, .int xL3), (5, .int xL5), (6, .int xL6), (7, .int xL7), (8, .int (xL8 + (1 : Int32)))]) rfl ?_
      exact ih _ _ h
theorem t_X10_happens {G : Gx} {d : Nat} (hl : G.1.stackTraces = false) (hd : 3 ≤ d) {σ : Sto} {a0 : Nat} {xa1 : Int32} {xa2 : Int32} {xa3 : Int32} {xa4 : Int32} {r : (Int32 × Sto)} (h : F_X10_happens σ a0 xa1 xa2 xa3 xa4 = some r) : Mi G d m_X10_happens 10 a0 [.int xa1, .int xa2, .int xa3, .int xa4] σ (.inl (some (.int r.1))) r.2 := by
  rw [F_X10_happens] at h
  obtain ⟨hg, h⟩ := chk_some h
  refine ⟨J.toMt (lo := [(0, .ref a0), (1, .int xa1), (2, .int xa2), (3, .int xa3), (4, .int xa4)]) pn_RX10 rfl hl (Nat.le_of_ble_eq_true rfl) rfl ?_, hg⟩
  refine r_aload_n (dc_X10_happens 0 rfl) rfl rfl ?_
  refine r_iconst (dc_X10_happens 1 rfl) kiconst_2 ?_
  obtain ⟨x1, e0, h⟩ := Option.bind_eq_some_iff.mp h
  refine r_callV (dc_X10_happens 2 rfl) mv_X10_of ml_RX10_62 (As := [.int (2 : Int32)]) (t_X10_of (d := d - 1) hl (by omega) e0) (by omega) rfl (Nat.le_of_ble_eq_true rfl) ?_
  refine r_istore (dc_X10_happens 3 rfl) (by decide) (lo' := [(5, .int x1), (0, .ref a0), (1, .int xa1), (2, .int xa2), (3, .int xa3), (4, .int xa4)]) rfl ?_
  refine r_iload (dc_X10_happens 4 rfl) rfl ?_
  obtain ⟨x2, e0, h⟩ := Option.bind_eq_some_iff.mp h
  refine r_callS (dc_X10_happens 5 rfl) ms_X10_eventOf ml_RX10_108 (As := [.int x1]) (t_X10_eventOf (d := d - 1) hl (by omega) e0) (by omega) rfl (Nat.le_of_ble_eq_true rfl) ?_
  refine r_istore (dc_X10_happens 6 rfl) (by decide) (lo' := [(6, .int x2), (5, .int x1), (0, .ref a0), (1, .int xa1), (2, .int xa2), (3, .int xa3), (4, .int xa4)]) rfl ?_
  refine r_iload_n (dc_X10_happens 7 rfl) rfl rfl ?_
  obtain ⟨x3, e0, h⟩ := Option.bind_eq_some_iff.mp h
  refine r_callS (dc_X10_happens 8 rfl) ms_X10_stateOf ml_RX10_111 (As := [.int xa1]) (t_X10_stateOf (d := d - 1) hl (by omega) e0) (by omega) rfl (Nat.le_of_ble_eq_true rfl) ?_
  refine r_istore (dc_X10_happens 9 rfl) (by decide) (lo' := [(7, .int x3), (6, .int x2), (5, .int x1), (0, .ref a0), (1, .int xa1), (2, .int xa2), (3, .int xa3), (4, .int xa4)]) rfl ?_
  refine r_aload_n (dc_X10_happens 10 rfl) rfl rfl ?_
  refine r_iload_n (dc_X10_happens 11 rfl) rfl rfl ?_
  obtain ⟨x4, e0, h⟩ := Option.bind_eq_some_iff.mp h
  refine r_callS (dc_X10_happens 12 rfl) ms_X10_clockOf ml_RX10_131 (As := [.int xa1]) (t_X10_clockOf (d := d - 1) hl (by omega) e0) (by omega) rfl (Nat.le_of_ble_eq_true rfl) ?_
  refine r_iconst (dc_X10_happens 13 rfl) kiconst_1 ?_
  obtain ⟨s5, e0, h⟩ := Option.bind_eq_some_iff.mp h
  refine r_callV (dc_X10_happens 14 rfl) mv_X10_more ml_RX10_124 (As := [.int x4, .int (1 : Int32)]) (t_X10_more (d := d - 1) hl (by omega) e0) (by omega) rfl (Nat.le_of_ble_eq_true rfl) ?_
  refine r_aload_n (dc_X10_happens 15 rfl) rfl rfl ?_
  refine r_iload (dc_X10_happens 16 rfl) rfl ?_
  refine r_iconst (dc_X10_happens 17 rfl) kiconst_0 ?_
  refine r_iadd (dc_X10_happens 18 rfl) ?_
  refine r_iload_n (dc_X10_happens 19 rfl) rfl rfl ?_
  obtain ⟨s6, e0, h⟩ := Option.bind_eq_some_iff.mp h
  refine r_callV (dc_X10_happens 20 rfl) mv_X10_set ml_RX10_66 (As := [.int (x2 + (0 : Int32)), .int xa1]) (t_X10_set (d := d - 1) hl (by omega) e0) (by omega) rfl (Nat.le_of_ble_eq_true rfl) ?_
  refine r_aload_n (dc_X10_happens 21 rfl) rfl rfl ?_
  refine r_iload (dc_X10_happens 22 rfl) rfl ?_
  refine r_iconst (dc_X10_happens 23 rfl) kiconst_1 ?_
  refine r_iadd (dc_X10_happens 24 rfl) ?_
  refine r_aload_n (dc_X10_happens 25 rfl) rfl rfl ?_
  refine r_iload_n (dc_X10_happens 26 rfl) rfl rfl ?_
  obtain ⟨x7, e0, h⟩ := Option.bind_eq_some_iff.mp h
  refine r_callS (dc_X10_happens 27 rfl) ms_X10_clockOf ml_RX10_131 (As := [.int xa1]) (t_X10_clockOf (d := d - 1) hl (by omega) e0) (by omega) rfl (Nat.le_of_ble_eq_true rfl) ?_
  obtain ⟨x8, e0, h⟩ := Option.bind_eq_some_iff.mp h
  refine r_callV (dc_X10_happens 28 rfl) mv_X10_of ml_RX10_62 (As := [.int x7]) (t_X10_of (d := d - 1) hl (by omega) e0) (by omega) rfl (Nat.le_of_ble_eq_true rfl) ?_
  obtain ⟨s9, e0, h⟩ := Option.bind_eq_some_iff.mp h
  refine r_callV (dc_X10_happens 29 rfl) mv_X10_set ml_RX10_66 (As := [.int (x2 + (1 : Int32)), .int x8]) (t_X10_set (d := d - 1) hl (by omega) e0) (by omega) rfl (Nat.le_of_ble_eq_true rfl) ?_
  refine r_aload_n (dc_X10_happens 30 rfl) rfl rfl ?_
  refine r_iload (dc_X10_happens 31 rfl) rfl ?_
  refine r_iconst (dc_X10_happens 32 rfl) kiconst_2 ?_
  refine r_iadd (dc_X10_happens 33 rfl) ?_
  refine r_iload_n (dc_X10_happens 34 rfl) rfl rfl ?_
  obtain ⟨x10, e0, h⟩ := Option.bind_eq_some_iff.mp h
  refine r_callS (dc_X10_happens 35 rfl) ms_X10_flag ml_RX10_74 (As := [.int xa2]) (t_X10_flag (d := d - 1) hl (by omega) e0) (by omega) rfl (Nat.le_of_ble_eq_true rfl) ?_
  obtain ⟨s11, e0, h⟩ := Option.bind_eq_some_iff.mp h
  refine r_callV (dc_X10_happens 36 rfl) mv_X10_set ml_RX10_66 (As := [.int (x2 + (2 : Int32)), .int x10]) (t_X10_set (d := d - 1) hl (by omega) e0) (by omega) rfl (Nat.le_of_ble_eq_true rfl) ?_
  refine r_aload_n (dc_X10_happens 37 rfl) rfl rfl ?_
  refine r_iload (dc_X10_happens 38 rfl) rfl ?_
  refine r_iconst (dc_X10_happens 39 rfl) kiconst_3 ?_
  refine r_iadd (dc_X10_happens 40 rfl) ?_
  refine r_iload_n (dc_X10_happens 41 rfl) rfl rfl ?_
  refine jn_elim h (Q := fun (j : Int32 → Option (Int32 × Sto)) => ∀ (x13 : Int32), j x13 = some r → J G d m_X10_happens 81 [(0, .ref a0), (1, .int xa1), (2, .int xa2), (3, .int xa3), (4, .int xa4), (5, .int x1), (6, .int x2), (7, .int x3)] [.int x13, .int (x2 + (3 : Int32)), .ref a0] s11 (.inl (some (.int r.1))) r.2) ?_ (fun j12 hj12 h => ?_)
  · intro x13 h
    obtain ⟨s14, e0, h⟩ := Option.bind_eq_some_iff.mp h
    refine r_callV (dc_X10_happens 46 rfl) mv_X10_set ml_RX10_66 (As := [.int (x2 + (3 : Int32)), .int x13]) (t_X10_set (d := d - 1) hl (by omega) e0) (by omega) rfl (Nat.le_of_ble_eq_true rfl) ?_
    refine r_aload_n (dc_X10_happens 47 rfl) rfl rfl ?_
    refine r_iload (dc_X10_happens 48 rfl) rfl ?_
    refine r_iconst (dc_X10_happens 49 rfl) kiconst_4 ?_
    refine r_iadd (dc_X10_happens 50 rfl) ?_
    refine r_iload (dc_X10_happens 51 rfl) rfl ?_
    obtain ⟨s15, e0, h⟩ := Option.bind_eq_some_iff.mp h
    refine r_callV (dc_X10_happens 52 rfl) mv_X10_set ml_RX10_66 (As := [.int (x2 + (4 : Int32)), .int xa4]) (t_X10_set (d := d - 1) hl (by omega) e0) (by omega) rfl (Nat.le_of_ble_eq_true rfl) ?_
    refine r_aload_n (dc_X10_happens 53 rfl) rfl rfl ?_
    refine r_iload (dc_X10_happens 54 rfl) rfl ?_
    refine r_iconst (dc_X10_happens 55 rfl) kiconst_5 ?_
    refine r_iadd (dc_X10_happens 56 rfl) ?_
    refine r_aload_n (dc_X10_happens 57 rfl) rfl rfl ?_
    refine r_bipush (dc_X10_happens 58 rfl) kbipush_6 ?_
    obtain ⟨x16, e0, h⟩ := Option.bind_eq_some_iff.mp h
    refine r_callV (dc_X10_happens 59 rfl) mv_X10_of ml_RX10_62 (As := [.int (6 : Int32)]) (t_X10_of (d := d - 1) hl (by omega) e0) (by omega) rfl (Nat.le_of_ble_eq_true rfl) ?_
    obtain ⟨s17, e0, h⟩ := Option.bind_eq_some_iff.mp h
    refine r_callV (dc_X10_happens 60 rfl) mv_X10_set ml_RX10_66 (As := [.int (x2 + (5 : Int32)), .int x16]) (t_X10_set (d := d - 1) hl (by omega) e0) (by omega) rfl (Nat.le_of_ble_eq_true rfl) ?_
    refine r_iconst (dc_X10_happens 61 rfl) kiconst_0 ?_
    refine r_istore (dc_X10_happens 62 rfl) (by decide) (lo' := [(8, .int (0 : Int32)), (0, .ref a0), (1, .int xa1), (2, .int xa2), (3, .int xa3), (4, .int xa4), (5, .int x1), (6, .int x2), (7, .int x3)]) rfl ?_
    refine r_pick [1, 2, 3, 4, 6, 7, 8, 0] (lo' := [(0, .ref a0), (1, .int xa1), (2, .int xa2), (3, .int xa3), (5, .int x1), (6, .int x2), (7, .int x3), (8, .int (0 : Int32))]) rfl ?_
    refine l_X10_happens_L111 hl hd (hk147 := ?_) fu _ _ h
    · intro s20 h
      refine r_aload_n (dc_X10_happens 82 rfl) rfl rfl ?_
      refine r_iconst (dc_X10_happens 83 rfl) kiconst_2 ?_
      refine r_iconst (dc_X10_happens 84 rfl) kiconst_1 ?_
      obtain ⟨s21, e0, h⟩ := Option.bind_eq_some_iff.mp h
      refine r_callV (dc_X10_happens 85 rfl) mv_X10_more ml_RX10_124 (As := [.int (2 : Int32), .int (1 : Int32)]) (t_X10_more (d := d - 1) hl (by omega) e0) (by omega) rfl (Nat.le_of_ble_eq_true rfl) ?_
      refine r_aload_n (dc_X10_happens 86 rfl) rfl rfl ?_
      refine r_iload_n (dc_X10_happens 87 rfl) rfl rfl ?_
      refine r_iload_n (dc_X10_happens 88 rfl) rfl rfl ?_
      refine r_iload_n (dc_X10_happens 89 rfl) rfl rfl ?_
      obtain ⟨x22, e0, h⟩ := Option.bind_eq_some_iff.mp h
      refine r_callS (dc_X10_happens 90 rfl) ms_X10_cellOf ml_RX10_117 (As := [.int xa1, .int xa1, .int xa1]) (t_X10_cellOf (d := d - 1) hl (by omega) e0) (by omega) rfl (Nat.le_of_ble_eq_true rfl) ?_
      refine r_aload_n (dc_X10_happens 91 rfl) rfl rfl ?_
      refine r_iload_n (dc_X10_happens 92 rfl) rfl rfl ?_
      obtain ⟨x23, e0, h⟩ := Option.bind_eq_some_iff.mp h
      refine r_callS (dc_X10_happens 93 rfl) ms_X10_clockOf ml_RX10_131 (As := [.int xa1]) (t_X10_clockOf (d := d - 1) hl (by omega) e0) (by omega) rfl (Nat.le_of_ble_eq_true rfl) ?_
      obtain ⟨x24, e0, h⟩ := Option.bind_eq_some_iff.mp h
      refine r_callV (dc_X10_happens 94 rfl) mv_X10_of ml_RX10_62 (As := [.int x23]) (t_X10_of (d := d - 1) hl (by omega) e0) (by omega) rfl (Nat.le_of_ble_eq_true rfl) ?_
      obtain ⟨s25, e0, h⟩ := Option.bind_eq_some_iff.mp h
      refine r_callV (dc_X10_happens 95 rfl) mv_X10_set ml_RX10_66 (As := [.int x22, .int x24]) (t_X10_set (d := d - 1) hl (by omega) e0) (by omega) rfl (Nat.le_of_ble_eq_true rfl) ?_
      refine r_aload_n (dc_X10_happens 96 rfl) rfl rfl ?_
      refine r_iload_n (dc_X10_happens 97 rfl) rfl rfl ?_
      refine r_iload (dc_X10_happens 98 rfl) rfl ?_
      obtain ⟨s26, e0, h⟩ := Option.bind_eq_some_iff.mp h
      refine r_callV (dc_X10_happens 99 rfl) mv_X10_logs ml_RX10_134 (As := [.int xa1, .int x1]) (t_X10_logs (d := d - 1) hl (by omega) e0) (by omega) rfl (Nat.le_of_ble_eq_true rfl) ?_
      refine r_aload_n (dc_X10_happens 100 rfl) rfl rfl ?_
      refine r_iload_n (dc_X10_happens 101 rfl) rfl rfl ?_
      refine r_iload (dc_X10_happens 102 rfl) rfl ?_
      refine r_iload_n (dc_X10_happens 103 rfl) rfl rfl ?_
      obtain ⟨s27, e0, h⟩ := Option.bind_eq_some_iff.mp h
      refine r_callV (dc_X10_happens 104 rfl) mv_X10_comesToHave ml_RX10_137 (As := [.int xa1, .int x1, .int xa1]) (t_X10_comesToHave (d := d - 1) hl (by omega) e0) (by omega) rfl (Nat.le_of_ble_eq_true rfl) ?_
      refine r_aload_n (dc_X10_happens 105 rfl) rfl rfl ?_
      refine r_iload (dc_X10_happens 106 rfl) rfl ?_
      refine r_bipush (dc_X10_happens 107 rfl) kbipush_29 ?_
      refine r_iadd (dc_X10_happens 108 rfl) ?_
      refine r_iload_n (dc_X10_happens 109 rfl) rfl rfl ?_
      refine jn_elim h (Q := fun (j : Int32 → Option (Int32 × Sto)) => ∀ (x29 : Int32), j x29 = some r → J G d m_X10_happens 202 [(2, .int xa2), (5, .int x1)] [.int x29, .int (x3 + (29 : Int32)), .ref a0] s27 (.inl (some (.int r.1))) r.2) ?_ (fun j28 hj28 h => ?_)
      · intro x29 h
        refine r_iload_n (dc_X10_happens 114 rfl) rfl rfl ?_
        refine r_if_ne (dc_X10_happens 115 rfl) (tgt := 210) (by decide) (fun c0 => ?_) (fun c0 => ?_)
        · rw [if_neg c0] at h
          refine r_iconst (dc_X10_happens 118 rfl) kiconst_0 ?_
          obtain ⟨s30, e0, h⟩ := Option.bind_eq_some_iff.mp h
          refine r_callV (dc_X10_happens 119 rfl) mv_X10_sets ml_RX10_127 (As := [.int (x3 + (29 : Int32)), .int x29, .int (0 : Int32)]) (t_X10_sets (d := d - 1) hl (by omega) e0) (by omega) rfl (Nat.le_of_ble_eq_true rfl) ?_
          refine r_iload (dc_X10_happens 120 rfl) rfl ?_
          cases h
          exact r_ireturn (dc_X10_happens 121 rfl) rfl
        · rw [if_pos c0] at h
          refine r_iconst (dc_X10_happens 116 rfl) kiconst_1 ?_
          refine r_goto (dc_X10_happens 117 rfl) (tgt := 211) (by decide) ?_
          obtain ⟨s31, e0, h⟩ := Option.bind_eq_some_iff.mp h
          refine r_callV (dc_X10_happens 119 rfl) mv_X10_sets ml_RX10_127 (As := [.int (x3 + (29 : Int32)), .int x29, .int (1 : Int32)]) (t_X10_sets (d := d - 1) hl (by omega) e0) (by omega) rfl (Nat.le_of_ble_eq_true rfl) ?_
          refine r_iload (dc_X10_happens 120 rfl) rfl ?_
          cases h
          exact r_ireturn (dc_X10_happens 121 rfl) rfl
      refine r_if_eq (dc_X10_happens 110 rfl) (tgt := 200) (by decide) (fun c0 => ?_) (fun c0 => ?_)
      · rw [if_pos c0] at h
        refine r_iload (dc_X10_happens 113 rfl) rfl ?_
        refine r_pick [2, 4] (lo' := [(2, .int xa2), (5, .int x1)]) rfl ?_
        exact hj28 _ h
      · rw [if_neg c0] at h
        refine r_iload_n (dc_X10_happens 111 rfl) rfl rfl ?_
        refine r_goto (dc_X10_happens 112 rfl) (tgt := 202) (by decide) ?_
        refine r_pick [2, 4] (lo' := [(2, .int xa2), (5, .int x1)]) rfl ?_
        exact hj28 _ h
  refine r_if_eq (dc_X10_happens 42 rfl) (tgt := 79) (by decide) (fun c0 => ?_) (fun c0 => ?_)
  · rw [if_pos c0] at h
    refine r_iload (dc_X10_happens 45 rfl) rfl ?_
    refine r_pick [3, 4, 5, 6, 7, 2, 1, 0] (lo' := [(0, .ref a0), (1, .int xa1), (2, .int xa2), (3, .int xa3), (4, .int xa4), (5, .int x1), (6, .int x2), (7, .int x3)]) rfl ?_
    exact hj12 _ h
  · rw [if_neg c0] at h
    refine r_iload_n (dc_X10_happens 43 rfl) rfl rfl ?_
    refine r_goto (dc_X10_happens 44 rfl) (tgt := 81) (by decide) ?_
    refine r_pick [3, 4, 5, 6, 7, 2, 1, 0] (lo' := [(0, .ref a0), (1, .int xa1), (2, .int xa2), (3, .int xa3), (4, .int xa4), (5, .int x1), (6, .int x2), (7, .int x3)]) rfl ?_
    exact hj12 _ h
theorem t_X10_adds {G : Gx} {d : Nat} (hl : G.1.stackTraces = false) (hd : 4 ≤ d) {σ : Sto} {a0 : Nat} {xa1 : Int32} {xa2 : Int32} {r : (Int32 × Sto)} (h : F_X10_adds σ a0 xa1 xa2 = some r) : Mi G d m_X10_adds 10 a0 [.int xa1, .int xa2] σ (.inl (some (.int r.1))) r.2 := by
  rw [F_X10_adds] at h
  obtain ⟨hg, h⟩ := chk_some h
  refine ⟨J.toMt (lo := [(0, .ref a0), (1, .int xa1), (2, .int xa2)]) pn_RX10 rfl hl (Nat.le_of_ble_eq_true rfl) rfl ?_, hg⟩
  refine r_aload_n (dc_X10_adds 0 rfl) rfl rfl ?_
  obtain ⟨s1, e0, h⟩ := Option.bind_eq_some_iff.mp h
  refine r_callV (dc_X10_adds 1 rfl) mv_X10_steps ml_RX10_141 (As := []) (t_X10_steps (d := d - 1) hl (by omega) e0) (by omega) rfl (Nat.le_of_ble_eq_true rfl) ?_
  refine r_aload_n (dc_X10_adds 2 rfl) rfl rfl ?_
  refine r_iconst (dc_X10_adds 3 rfl) kiconst_0 ?_
  refine r_iload_n (dc_X10_adds 4 rfl) rfl rfl ?_
  refine r_aload_n (dc_X10_adds 5 rfl) rfl rfl ?_
  refine r_iload_n (dc_X10_adds 6 rfl) rfl rfl ?_
  refine r_iconst (dc_X10_adds 7 rfl) kiconst_0 ?_
  refine r_iconst (dc_X10_adds 8 rfl) kiconst_m1 ?_
  refine r_iload_n (dc_X10_adds 9 rfl) rfl rfl ?_
  obtain ⟨x3, s2, e0, h⟩ := wb_some h
  refine r_callV (dc_X10_adds 10 rfl) mv_X10_happens ml_RX10_144 (As := [.int xa1, .int (0 : Int32), .int (-1 : Int32), .int xa2]) (t_X10_happens (d := d - 1) hl (by omega) e0) (by omega) rfl (Nat.le_of_ble_eq_true rfl) ?_
  obtain ⟨x5, s4, e0, h⟩ := wb_some h
  refine r_callV (dc_X10_adds 11 rfl) mv_X10_notes ml_RX10_148 (As := [.int (0 : Int32), .int xa1, .int x3]) (t_X10_notes (d := d - 1) hl (by omega) e0) (by omega) rfl (Nat.le_of_ble_eq_true rfl) ?_
  cases h
  exact r_ireturn (dc_X10_adds 12 rfl) rfl
theorem t_X10_takes {G : Gx} {d : Nat} (hl : G.1.stackTraces = false) (hd : 4 ≤ d) {σ : Sto} {a0 : Nat} {xa1 : Int32} {xa2 : Int32} {r : (Int32 × Sto)} (h : F_X10_takes σ a0 xa1 xa2 = some r) : Mi G d m_X10_takes 10 a0 [.int xa1, .int xa2] σ (.inl (some (.int r.1))) r.2 := by
  rw [F_X10_takes] at h
  obtain ⟨hg, h⟩ := chk_some h
  refine ⟨J.toMt (lo := [(0, .ref a0), (1, .int xa1), (2, .int xa2)]) pn_RX10 rfl hl (Nat.le_of_ble_eq_true rfl) rfl ?_, hg⟩
  refine r_aload_n (dc_X10_takes 0 rfl) rfl rfl ?_
  obtain ⟨s1, e0, h⟩ := Option.bind_eq_some_iff.mp h
  refine r_callV (dc_X10_takes 1 rfl) mv_X10_steps ml_RX10_141 (As := []) (t_X10_steps (d := d - 1) hl (by omega) e0) (by omega) rfl (Nat.le_of_ble_eq_true rfl) ?_
  refine r_aload_n (dc_X10_takes 2 rfl) rfl rfl ?_
  refine r_iconst (dc_X10_takes 3 rfl) kiconst_1 ?_
  refine r_iload_n (dc_X10_takes 4 rfl) rfl rfl ?_
  refine r_aload_n (dc_X10_takes 5 rfl) rfl rfl ?_
  refine r_iload_n (dc_X10_takes 6 rfl) rfl rfl ?_
  refine r_iconst (dc_X10_takes 7 rfl) kiconst_1 ?_
  refine r_iload_n (dc_X10_takes 8 rfl) rfl rfl ?_
  refine r_aload_n (dc_X10_takes 9 rfl) rfl rfl ?_
  obtain ⟨p2, e0, h⟩ := Option.bind_eq_some_iff.mp h
  refine r_getR (dc_X10_takes 10 rfl) fl_RX10_14 e0 ?_
  refine r_iload_n (dc_X10_takes 11 rfl) rfl rfl ?_
  obtain ⟨x3, e0, h⟩ := Option.bind_eq_some_iff.mp h
  refine r_callS (dc_X10_takes 12 rfl) ms_X10_eventOf ml_RX10_108 (As := [.int xa2]) (t_X10_eventOf (d := d - 1) hl (by omega) e0) (by omega) rfl (Nat.le_of_ble_eq_true rfl) ?_
  refine r_iconst (dc_X10_takes 13 rfl) kiconst_4 ?_
  refine r_iadd (dc_X10_takes 14 rfl) ?_
  obtain ⟨x4, e0, h⟩ := Option.bind_eq_some_iff.mp h
  refine r_iald (dc_X10_takes 15 rfl) e0 ?_
  obtain ⟨x6, s5, e0, h⟩ := wb_some h
  refine r_callV (dc_X10_takes 16 rfl) mv_X10_happens ml_RX10_144 (As := [.int xa1, .int (1 : Int32), .int xa2, .int x4]) (t_X10_happens (d := d - 1) hl (by omega) e0) (by omega) rfl (Nat.le_of_ble_eq_true rfl) ?_
  obtain ⟨x8, s7, e0, h⟩ := wb_some h
  refine r_callV (dc_X10_takes 17 rfl) mv_X10_notes ml_RX10_148 (As := [.int (1 : Int32), .int xa1, .int x6]) (t_X10_notes (d := d - 1) hl (by omega) e0) (by omega) rfl (Nat.le_of_ble_eq_true rfl) ?_
  cases h
  exact r_ireturn (dc_X10_takes 18 rfl) rfl
theorem t_X10_add {G : Gx} {d : Nat} (hl : G.1.stackTraces = false) (hd : 5 ≤ d) {σ : Sto} {a0 : Nat} {xa1 : Int32} {xa2 : Int32} {r : (Int32 × Sto)} (h : F_X10_add σ a0 xa1 xa2 = some r) : Mi G d m_X10_add 10 a0 [.int xa1, .int xa2] σ (.inl (some (.int r.1))) r.2 := by
  rw [F_X10_add] at h
  obtain ⟨hg, h⟩ := chk_some h
  refine ⟨J.toMt (lo := [(0, .ref a0), (1, .int xa1), (2, .int xa2)]) pn_RX10 rfl hl (Nat.le_of_ble_eq_true rfl) rfl ?_, hg⟩
  refine r_aload_n (dc_X10_add 0 rfl) rfl rfl ?_
  refine r_iconst (dc_X10_add 1 rfl) kiconst_0 ?_
  obtain ⟨s1, e0, h⟩ := Option.bind_eq_some_iff.mp h
  refine r_put (dc_X10_add 2 rfl) pl_RX10_1 rfl e0 ?_
  refine r_aload_n (dc_X10_add 3 rfl) rfl rfl ?_
  refine r_iload_n (dc_X10_add 4 rfl) rfl rfl ?_
  obtain ⟨x2, e0, h⟩ := Option.bind_eq_some_iff.mp h
  refine r_callV (dc_X10_add 5 rfl) mv_X10_isSite ml_RX10_93 (As := [.int xa1]) (t_X10_isSite (d := d - 1) hl (by omega) e0) (by omega) rfl (Nat.le_of_ble_eq_true rfl) ?_
  refine r_if_ne (dc_X10_add 6 rfl) (tgt := 19) (by decide) (fun c0 => ?_) (fun c0 => ?_)
  · rw [if_neg c0] at h
    refine r_aload_n (dc_X10_add 11 rfl) rfl rfl ?_
    obtain ⟨p3, e0, h⟩ := Option.bind_eq_some_iff.mp h
    refine r_getR (dc_X10_add 12 rfl) fl_RX10_14 e0 ?_
    refine r_iconst (dc_X10_add 13 rfl) kiconst_2 ?_
    obtain ⟨x4, e0, h⟩ := Option.bind_eq_some_iff.mp h
    refine r_iald (dc_X10_add 14 rfl) e0 ?_
    refine r_bipush (dc_X10_add 15 rfl) kbipush_120 ?_
    refine r_icmp_ne (dc_X10_add 16 rfl) (tgt := 36) (by decide) (fun c0 => ?_) (fun c0 => ?_)
    · rw [if_neg c0] at h
      refine r_iload_n (dc_X10_add 21 rfl) rfl rfl ?_
      refine r_i2l (dc_X10_add 22 rfl) ?_
      refine r_lconst (dc_X10_add 23 rfl) klconst_0 ?_
      refine r_ldc2 (dc_X10_add 24 rfl) ck_RX10_151 ?_
      obtain ⟨x5, e0, h⟩ := Option.bind_eq_some_iff.mp h
      refine r_callS (dc_X10_add 25 rfl) ms_X10_isIn ml_RX10_89 (As := [.long xa2.toInt64, .long (0 : Int64), .long (99 : Int64)]) (t_X10_isIn (d := d - 1) hl (by omega) e0) (by omega) rfl (Nat.le_of_ble_eq_true rfl) ?_
      refine r_if_eq (dc_X10_add 26 rfl) (tgt := 57) (by decide) (fun c0 => ?_) (fun c0 => ?_)
      · rw [if_pos c0] at h
        refine r_aload_n (dc_X10_add 32 rfl) rfl rfl ?_
        refine r_iconst (dc_X10_add 33 rfl) kiconst_3 ?_
        obtain ⟨x7, s6, e0, h⟩ := wb_some h
        refine r_callV (dc_X10_add 34 rfl) mv_X10_fails ml_RX10_101 (As := [.int (3 : Int32)]) (t_X10_fails (d := d - 1) hl (by omega) e0) (by omega) rfl (Nat.le_of_ble_eq_true rfl) ?_
        cases h
        exact r_ireturn (dc_X10_add 35 rfl) rfl
      · rw [if_neg c0] at h
        refine r_aload_n (dc_X10_add 27 rfl) rfl rfl ?_
        refine r_iload_n (dc_X10_add 28 rfl) rfl rfl ?_
        refine r_iload_n (dc_X10_add 29 rfl) rfl rfl ?_
        obtain ⟨x9, s8, e0, h⟩ := wb_some h
        refine r_callV (dc_X10_add 30 rfl) mv_X10_adds ml_RX10_153 (As := [.int xa1, .int xa2]) (t_X10_adds (d := d - 1) hl (by omega) e0) (by omega) rfl (Nat.le_of_ble_eq_true rfl) ?_
        refine r_goto (dc_X10_add 31 rfl) (tgt := 62) (by decide) ?_
        cases h
        exact r_ireturn (dc_X10_add 35 rfl) rfl
    · rw [if_pos c0] at h
      refine r_aload_n (dc_X10_add 17 rfl) rfl rfl ?_
      refine r_iconst (dc_X10_add 18 rfl) kiconst_2 ?_
      obtain ⟨x11, s10, e0, h⟩ := wb_some h
      refine r_callV (dc_X10_add 19 rfl) mv_X10_fails ml_RX10_101 (As := [.int (2 : Int32)]) (t_X10_fails (d := d - 1) hl (by omega) e0) (by omega) rfl (Nat.le_of_ble_eq_true rfl) ?_
      cases h
      exact r_ireturn (dc_X10_add 20 rfl) rfl
  · rw [if_pos c0] at h
    refine r_aload_n (dc_X10_add 7 rfl) rfl rfl ?_
    refine r_iconst (dc_X10_add 8 rfl) kiconst_1 ?_
    obtain ⟨x13, s12, e0, h⟩ := wb_some h
    refine r_callV (dc_X10_add 9 rfl) mv_X10_fails ml_RX10_101 (As := [.int (1 : Int32)]) (t_X10_fails (d := d - 1) hl (by omega) e0) (by omega) rfl (Nat.le_of_ble_eq_true rfl) ?_
    cases h
    exact r_ireturn (dc_X10_add 10 rfl) rfl
theorem t_X10_take {G : Gx} {d : Nat} (hl : G.1.stackTraces = false) (hd : 5 ≤ d) {σ : Sto} {a0 : Nat} {xa1 : Int32} {xa2 : Int32} {r : (Int32 × Sto)} (h : F_X10_take σ a0 xa1 xa2 = some r) : Mi G d m_X10_take 10 a0 [.int xa1, .int xa2] σ (.inl (some (.int r.1))) r.2 := by
  rw [F_X10_take] at h
  obtain ⟨hg, h⟩ := chk_some h
  refine ⟨J.toMt (lo := [(0, .ref a0), (1, .int xa1), (2, .int xa2)]) pn_RX10 rfl hl (Nat.le_of_ble_eq_true rfl) rfl ?_, hg⟩
  refine r_aload_n (dc_X10_take 0 rfl) rfl rfl ?_
  refine r_iconst (dc_X10_take 1 rfl) kiconst_0 ?_
  obtain ⟨s1, e0, h⟩ := Option.bind_eq_some_iff.mp h
  refine r_put (dc_X10_take 2 rfl) pl_RX10_1 rfl e0 ?_
  refine r_aload_n (dc_X10_take 3 rfl) rfl rfl ?_
  refine r_iconst (dc_X10_take 4 rfl) kiconst_0 ?_
  obtain ⟨s2, e0, h⟩ := Option.bind_eq_some_iff.mp h
  refine r_put (dc_X10_take 5 rfl) pl_RX10_59 rfl e0 ?_
  refine r_aload_n (dc_X10_take 6 rfl) rfl rfl ?_
  refine r_iload_n (dc_X10_take 7 rfl) rfl rfl ?_
  obtain ⟨x3, e0, h⟩ := Option.bind_eq_some_iff.mp h
  refine r_callV (dc_X10_take 8 rfl) mv_X10_isSite ml_RX10_93 (As := [.int xa1]) (t_X10_isSite (d := d - 1) hl (by omega) e0) (by omega) rfl (Nat.le_of_ble_eq_true rfl) ?_
  refine r_if_ne (dc_X10_take 9 rfl) (tgt := 24) (by decide) (fun c0 => ?_) (fun c0 => ?_)
  · rw [if_neg c0] at h
    refine r_aload_n (dc_X10_take 14 rfl) rfl rfl ?_
    refine r_iload_n (dc_X10_take 15 rfl) rfl rfl ?_
    obtain ⟨x4, e0, h⟩ := Option.bind_eq_some_iff.mp h
    refine r_callV (dc_X10_take 16 rfl) mv_X10_isEvent ml_RX10_156 (As := [.int xa2]) (t_X10_isEvent (d := d - 1) hl (by omega) e0) (by omega) rfl (Nat.le_of_ble_eq_true rfl) ?_
    refine r_if_eq (dc_X10_take 17 rfl) (tgt := 47) (by decide) (fun c0 => ?_) (fun c0 => ?_)
    · rw [if_pos c0] at h
      refine r_aload_n (dc_X10_take 26 rfl) rfl rfl ?_
      refine r_iconst (dc_X10_take 27 rfl) kiconst_2 ?_
      obtain ⟨x6, s5, e0, h⟩ := wb_some h
      refine r_callV (dc_X10_take 28 rfl) mv_X10_fails ml_RX10_101 (As := [.int (2 : Int32)]) (t_X10_fails (d := d - 1) hl (by omega) e0) (by omega) rfl (Nat.le_of_ble_eq_true rfl) ?_
      cases h
      exact r_ireturn (dc_X10_take 29 rfl) rfl
    · rw [if_neg c0] at h
      refine r_aload_n (dc_X10_take 18 rfl) rfl rfl ?_
      refine r_iload_n (dc_X10_take 19 rfl) rfl rfl ?_
      obtain ⟨x7, e0, h⟩ := Option.bind_eq_some_iff.mp h
      refine r_callS (dc_X10_take 20 rfl) ms_X10_stateOf ml_RX10_111 (As := [.int xa1]) (t_X10_stateOf (d := d - 1) hl (by omega) e0) (by omega) rfl (Nat.le_of_ble_eq_true rfl) ?_
      refine r_bipush (dc_X10_take 21 rfl) kbipush_29 ?_
      refine r_iadd (dc_X10_take 22 rfl) ?_
      refine r_iload_n (dc_X10_take 23 rfl) rfl rfl ?_
      obtain ⟨x8, e0, h⟩ := Option.bind_eq_some_iff.mp h
      refine r_callV (dc_X10_take 24 rfl) mv_X10_isOf ml_RX10_70 (As := [.int (x7 + (29 : Int32)), .int xa2]) (t_X10_isOf (d := d - 1) hl (by omega) e0) (by omega) rfl (Nat.le_of_ble_eq_true rfl) ?_
      refine r_if_ne (dc_X10_take 25 rfl) (tgt := 53) (by decide) (fun c0 => ?_) (fun c0 => ?_)
      · rw [if_neg c0] at h
        refine r_aload_n (dc_X10_take 30 rfl) rfl rfl ?_
        obtain ⟨p9, e0, h⟩ := Option.bind_eq_some_iff.mp h
        refine r_getR (dc_X10_take 31 rfl) fl_RX10_14 e0 ?_
        refine r_iconst (dc_X10_take 32 rfl) kiconst_2 ?_
        obtain ⟨x10, e0, h⟩ := Option.bind_eq_some_iff.mp h
        refine r_iald (dc_X10_take 33 rfl) e0 ?_
        refine r_bipush (dc_X10_take 34 rfl) kbipush_120 ?_
        refine r_icmp_ne (dc_X10_take 35 rfl) (tgt := 72) (by decide) (fun c0 => ?_) (fun c0 => ?_)
        · rw [if_neg c0] at h
          refine r_aload_n (dc_X10_take 40 rfl) rfl rfl ?_
          refine r_iload_n (dc_X10_take 41 rfl) rfl rfl ?_
          refine r_iload_n (dc_X10_take 42 rfl) rfl rfl ?_
          obtain ⟨x12, s11, e0, h⟩ := wb_some h
          refine r_callV (dc_X10_take 43 rfl) mv_X10_takes ml_RX10_159 (As := [.int xa1, .int xa2]) (t_X10_takes (d := d - 1) hl (by omega) e0) (by omega) rfl (Nat.le_of_ble_eq_true rfl) ?_
          cases h
          exact r_ireturn (dc_X10_take 44 rfl) rfl
        · rw [if_pos c0] at h
          refine r_aload_n (dc_X10_take 36 rfl) rfl rfl ?_
          refine r_iconst (dc_X10_take 37 rfl) kiconst_3 ?_
          obtain ⟨x14, s13, e0, h⟩ := wb_some h
          refine r_callV (dc_X10_take 38 rfl) mv_X10_fails ml_RX10_101 (As := [.int (3 : Int32)]) (t_X10_fails (d := d - 1) hl (by omega) e0) (by omega) rfl (Nat.le_of_ble_eq_true rfl) ?_
          refine r_goto (dc_X10_take 39 rfl) (tgt := 78) (by decide) ?_
          cases h
          exact r_ireturn (dc_X10_take 44 rfl) rfl
      · rw [if_pos c0] at h
        refine r_aload_n (dc_X10_take 26 rfl) rfl rfl ?_
        refine r_iconst (dc_X10_take 27 rfl) kiconst_2 ?_
        obtain ⟨x16, s15, e0, h⟩ := wb_some h
        refine r_callV (dc_X10_take 28 rfl) mv_X10_fails ml_RX10_101 (As := [.int (2 : Int32)]) (t_X10_fails (d := d - 1) hl (by omega) e0) (by omega) rfl (Nat.le_of_ble_eq_true rfl) ?_
        cases h
        exact r_ireturn (dc_X10_take 29 rfl) rfl
  · rw [if_pos c0] at h
    refine r_aload_n (dc_X10_take 10 rfl) rfl rfl ?_
    refine r_iconst (dc_X10_take 11 rfl) kiconst_1 ?_
    obtain ⟨x18, s17, e0, h⟩ := wb_some h
    refine r_callV (dc_X10_take 12 rfl) mv_X10_fails ml_RX10_101 (As := [.int (1 : Int32)]) (t_X10_fails (d := d - 1) hl (by omega) e0) (by omega) rfl (Nat.le_of_ble_eq_true rfl) ?_
    cases h
    exact r_ireturn (dc_X10_take 13 rfl) rfl
theorem l_X10_lays_L12 {G : Gx} {d : Nat} (hl : G.1.stackTraces = false) (hd : 3 ≤ d) {pL0 : Nat} {xL1 : Int32} {xL2 : Int32} {xL3 : Int32} {xL4 : Int32} {r : (Int32 × Sto)} {k75 : Int32 → Sto → Option (Int32 × Sto)}
    (hk75 : ∀ (xL5 : Int32) (sL : Sto), k75 xL5 sL = some r → J G d m_X10_lays 75 [(0, .ref pL0), (1, .int xL1), (4, .int xL4), (5, .int xL5)] [] sL (.inl (some (.int r.1))) r.2)
  : ∀ (f : Nat) (xL5 : Int32) (xL6 : Int32) (sL : Sto), F_X10_lays_L12 pL0 xL1 xL2 xL3 xL4 f xL5 xL6 sL k75 = some r → J G d m_X10_lays 12 [(0, .ref pL0), (1, .int xL1), (2, .int xL2), (3, .int xL3), (4, .int xL4), (5, .int xL5), (6, .int xL6)] [] sL (.inl (some (.int r.1))) r.2 := by
  intro f
  induction f with
  | zero => intro xL5 xL6 sL h; rw [F_X10_lays_L12] at h; cases h
  | succ f ih =>
    intro xL5 xL6 sL h
    rw [F_X10_lays_L12] at h
    refine r_iload (dc_X10_lays 7 rfl) rfl ?_
    refine r_aload_n (dc_X10_lays 8 rfl) rfl rfl ?_
    refine r_iload (dc_X10_lays 9 rfl) rfl ?_
    refine r_bipush (dc_X10_lays 10 rfl) kbipush_33 ?_
    refine r_iadd (dc_X10_lays 11 rfl) ?_
    obtain ⟨x2, e0, h⟩ := Option.bind_eq_some_iff.mp h
    refine r_callV (dc_X10_lays 12 rfl) mv_X10_of ml_RX10_62 (As := [.int (xL4 + (33 : Int32))]) (t_X10_of (d := d - 1) hl (by omega) e0) (by omega) rfl (Nat.le_of_ble_eq_true rfl) ?_
    refine r_icmp_ge (dc_X10_lays 13 rfl) (tgt := 75) (by decide) (fun c0 => ?_) (fun c0 => ?_)
    · rw [if_pos c0] at h
      refine r_pick [0, 1, 4, 5] (lo' := [(0, .ref pL0), (1, .int xL1), (4, .int xL4), (5, .int xL5)]) rfl ?_
      exact hk75 _ _ h
    · rw [if_neg c0] at h
      refine r_aload_n (dc_X10_lays 14 rfl) rfl rfl ?_
      refine r_iload (dc_X10_lays 15 rfl) rfl ?_
      refine r_bipush (dc_X10_lays 16 rfl) kbipush_34 ?_
      refine r_iadd (dc_X10_lays 17 rfl) ?_
      refine r_iload (dc_X10_lays 18 rfl) rfl ?_
      refine r_iadd (dc_X10_lays 19 rfl) ?_
      obtain ⟨x3, e0, h⟩ := Option.bind_eq_some_iff.mp h
      refine r_callV (dc_X10_lays 20 rfl) mv_X10_of ml_RX10_62 (As := [.int ((xL4 + (34 : Int32)) + xL6)]) (t_X10_of (d := d - 1) hl (by omega) e0) (by omega) rfl (Nat.le_of_ble_eq_true rfl) ?_
      refine r_istore (dc_X10_lays 21 rfl) (by decide) (lo' := [(7, .int x3), (0, .ref pL0), (1, .int xL1), (2, .int xL2), (3, .int xL3), (4, .int xL4), (5, .int xL5), (6, .int xL6)]) rfl ?_
      refine r_aload_n (dc_X10_lays 22 rfl) rfl rfl ?_
      refine r_iload_n (dc_X10_lays 23 rfl) rfl rfl ?_
      refine r_iload_n (dc_X10_lays 24 rfl) rfl rfl ?_
      refine r_iload (dc_X10_lays 25 rfl) rfl ?_
      obtain ⟨x4, e0, h⟩ := Option.bind_eq_some_iff.mp h
      refine r_callV (dc_X10_lays 26 rfl) mv_X10_isKnown ml_RX10_162 (As := [.int xL2, .int xL3, .int x3]) (t_X10_isKnown (d := d - 1) hl (by omega) e0) (by omega) rfl (Nat.le_of_ble_eq_true rfl) ?_
      refine r_if_eq (dc_X10_lays 27 rfl) (tgt := 54) (by decide) (fun c0 => ?_) (fun c0 => ?_)
      · rw [if_pos c0] at h
        refine r_aload_n (dc_X10_lays 29 rfl) rfl rfl ?_
        refine r_iload_n (dc_X10_lays 30 rfl) rfl rfl ?_
        refine r_iconst (dc_X10_lays 31 rfl) kiconst_2 ?_
        refine r_iadd (dc_X10_lays 32 rfl) ?_
        refine r_iload (dc_X10_lays 33 rfl) rfl ?_
        refine r_iadd (dc_X10_lays 34 rfl) ?_
        refine r_iload (dc_X10_lays 35 rfl) rfl ?_
        obtain ⟨s5, e0, h⟩ := Option.bind_eq_some_iff.mp h
        refine r_callV (dc_X10_lays 36 rfl) mv_X10_set ml_RX10_66 (As := [.int ((xL1 + (2 : Int32)) + xL5), .int x3]) (t_X10_set (d := d - 1) hl (by omega) e0) (by omega) rfl (Nat.le_of_ble_eq_true rfl) ?_
        refine r_iinc (dc_X10_lays 37 rfl) rfl (kinc_1 _) (by decide) (lo' := [(5, .int (xL5 + (1 : Int32))), (7, .int x3), (0, .ref pL0), (1, .int xL1), (2, .int xL2), (3, .int xL3), (4, .int xL4), (6, .int xL6)]) rfl ?_
        refine r_iinc (dc_X10_lays 38 rfl) rfl (kinc_1 _) (by decide) (lo' := [(6, .int (xL6 + (1 : Int32))), (5, .int (xL5 + (1 : Int32))), (7, .int x3), (0, .ref pL0), (1, .int xL1), (2, .int xL2), (3, .int xL3), (4, .int xL4)]) rfl ?_
        refine r_goto (dc_X10_lays 39 rfl) (tgt := 12) (by decide) ?_
        refine r_pick [3, 4, 5, 6, 7, 1, 0] (lo' := [(0, .ref pL0), (1, .int xL1), (2, .int xL2), (3, .int xL3), (4, .int xL4), (5, .int (xL5 + (1 : Int32))), (6, .int (xL6 + (1 : Int32)))]) rfl ?_
        exact ih _ _ _ h
      · rw [if_neg c0] at h
        refine r_goto (dc_X10_lays 28 rfl) (tgt := 69) (by decide) ?_
        refine r_iinc (dc_X10_lays 38 rfl) rfl (kinc_1 _) (by decide) (lo' := [(6, .int (xL6 + (1 : Int32))), (7, .int x3), (0, .ref pL0), (1, .int xL1), (2, .int xL2), (3, .int xL3), (4, .int xL4), (5, .int xL5)]) rfl ?_
        refine r_goto (dc_X10_lays 39 rfl) (tgt := 12) (by decide) ?_
        refine r_pick [2, 3, 4, 5, 6, 7, 0] (lo' := [(0, .ref pL0), (1, .int xL1), (2, .int xL2), (3, .int xL3), (4, .int xL4), (5, .int xL5), (6, .int (xL6 + (1 : Int32)))]) rfl ?_
        exact ih _ _ _ h
theorem l_X10_lays_L99 {G : Gx} {d : Nat} (hl : G.1.stackTraces = false) (hd : 3 ≤ d) {pL0 : Nat} {xL1 : Int32} {xL4 : Int32} {xL5 : Int32} {r : (Int32 × Sto)} {k132 : Sto → Option (Int32 × Sto)}
    (hk132 : ∀ (sL : Sto), k132 sL = some r → J G d m_X10_lays 132 [(5, .int xL5)] [] sL (.inl (some (.int r.1))) r.2)
  : ∀ (f : Nat) (xL6 : Int32) (sL : Sto), F_X10_lays_L99 pL0 xL1 xL4 f xL6 sL k132 = some r → J G d m_X10_lays 99 [(0, .ref pL0), (1, .int xL1), (4, .int xL4), (5, .int xL5), (6, .int xL6)] [] sL (.inl (some (.int r.1))) r.2 := by
  intro f
  induction f with
  | zero => intro xL6 sL h; rw [F_X10_lays_L99] at h; cases h
  | succ f ih =>
    intro xL6 sL h
    rw [F_X10_lays_L99] at h
    refine r_iload (dc_X10_lays 56 rfl) rfl ?_
    refine r_bipush (dc_X10_lays 57 rfl) kbipush_25 ?_
    refine r_icmp_ge (dc_X10_lays 58 rfl) (tgt := 132) (by decide) (fun c0 => ?_) (fun c0 => ?_)
    · rw [if_pos c0] at h
      refine r_pick [3] (lo' := [(5, .int xL5)]) rfl ?_
      exact hk132 _ h
    · rw [if_neg c0] at h
      refine r_aload_n (dc_X10_lays 59 rfl) rfl rfl ?_
      refine r_iload_n (dc_X10_lays 60 rfl) rfl rfl ?_
      refine r_bipush (dc_X10_lays 61 rfl) kbipush_122 ?_
      refine r_iadd (dc_X10_lays 62 rfl) ?_
      refine r_iload (dc_X10_lays 63 rfl) rfl ?_
      refine r_iadd (dc_X10_lays 64 rfl) ?_
      refine r_aload_n (dc_X10_lays 65 rfl) rfl rfl ?_
      refine r_iload (dc_X10_lays 66 rfl) rfl ?_
      refine r_iload (dc_X10_lays 67 rfl) rfl ?_
      refine r_iadd (dc_X10_lays 68 rfl) ?_
      obtain ⟨x11, e0, h⟩ := Option.bind_eq_some_iff.mp h
      refine r_callV (dc_X10_lays 69 rfl) mv_X10_of ml_RX10_62 (As := [.int (xL4 + xL6)]) (t_X10_of (d := d - 1) hl (by omega) e0) (by omega) rfl (Nat.le_of_ble_eq_true rfl) ?_
      obtain ⟨s12, e0, h⟩ := Option.bind_eq_some_iff.mp h
      refine r_callV (dc_X10_lays 70 rfl) mv_X10_set ml_RX10_66 (As := [.int ((xL1 + (122 : Int32)) + xL6), .int x11]) (t_X10_set (d := d - 1) hl (by omega) e0) (by omega) rfl (Nat.le_of_ble_eq_true rfl) ?_
      refine r_iinc (dc_X10_lays 71 rfl) rfl (kinc_1 _) (by decide) (lo' := [(6, .int (xL6 + (1 : Int32))), (0, .ref pL0), (1, .int xL1), (4, .int xL4), (5, .int xL5)]) rfl ?_
      refine r_goto (dc_X10_lays 72 rfl) (tgt := 99) (by decide) ?_
      refine r_pick [1, 2, 3, 4, 0] (lo' := [(0, .ref pL0), (1, .int xL1), (4, .int xL4), (5, .int xL5), (6, .int (xL6 + (1 : Int32)))]) rfl ?_
      exact ih _ _ h
theorem t_X10_lays {G : Gx} {d : Nat} (hl : G.1.stackTraces = false) (hd : 3 ≤ d) {σ : Sto} {a0 : Nat} {xa1 : Int32} {xa2 : Int32} {xa3 : Int32} {r : (Int32 × Sto)} (h : F_X10_lays σ a0 xa1 xa2 xa3 = some r) : Mi G d m_X10_lays 10 a0 [.int xa1, .int xa2, .int xa3] σ (.inl (some (.int r.1))) r.2 := by
  rw [F_X10_lays] at h
  obtain ⟨hg, h⟩ := chk_some h
  refine ⟨J.toMt (lo := [(0, .ref a0), (1, .int xa1), (2, .int xa2), (3, .int xa3)]) pn_RX10 rfl hl (Nat.le_of_ble_eq_true rfl) rfl ?_, hg⟩
  refine r_iload_n (dc_X10_lays 0 rfl) rfl rfl ?_
  obtain ⟨x1, e0, h⟩ := Option.bind_eq_some_iff.mp h
  refine r_callS (dc_X10_lays 1 rfl) ms_X10_stateOf ml_RX10_111 (As := [.int xa2]) (t_X10_stateOf (d := d - 1) hl (by omega) e0) (by omega) rfl (Nat.le_of_ble_eq_true rfl) ?_
  refine r_istore (dc_X10_lays 2 rfl) (by decide) (lo' := [(4, .int x1), (0, .ref a0), (1, .int xa1), (2, .int xa2), (3, .int xa3)]) rfl ?_
  refine r_iconst (dc_X10_lays 3 rfl) kiconst_0 ?_
  refine r_istore (dc_X10_lays 4 rfl) (by decide) (lo' := [(5, .int (0 : Int32)), (4, .int x1), (0, .ref a0), (1, .int xa1), (2, .int xa2), (3, .int xa3)]) rfl ?_
  refine r_iconst (dc_X10_lays 5 rfl) kiconst_0 ?_
  refine r_istore (dc_X10_lays 6 rfl) (by decide) (lo' := [(6, .int (0 : Int32)), (5, .int (0 : Int32)), (4, .int x1), (0, .ref a0), (1, .int xa1), (2, .int xa2), (3, .int xa3)]) rfl ?_
  refine r_pick [3, 4, 5, 6, 2, 1, 0] (lo' := [(0, .ref a0), (1, .int xa1), (2, .int xa2), (3, .int xa3), (4, .int x1), (5, .int (0 : Int32)), (6, .int (0 : Int32))]) rfl ?_
  refine l_X10_lays_L12 hl hd (hk75 := ?_) fu _ _ _ h
  · intro x6 s7 h
    refine r_aload_n (dc_X10_lays 40 rfl) rfl rfl ?_
    refine r_iload_n (dc_X10_lays 41 rfl) rfl rfl ?_
    refine r_iconst (dc_X10_lays 42 rfl) kiconst_0 ?_
    refine r_iadd (dc_X10_lays 43 rfl) ?_
    refine r_aload_n (dc_X10_lays 44 rfl) rfl rfl ?_
    refine r_iconst (dc_X10_lays 45 rfl) kiconst_1 ?_
    obtain ⟨x8, e0, h⟩ := Option.bind_eq_some_iff.mp h
    refine r_callV (dc_X10_lays 46 rfl) mv_X10_of ml_RX10_62 (As := [.int (1 : Int32)]) (t_X10_of (d := d - 1) hl (by omega) e0) (by omega) rfl (Nat.le_of_ble_eq_true rfl) ?_
    obtain ⟨s9, e0, h⟩ := Option.bind_eq_some_iff.mp h
    refine r_callV (dc_X10_lays 47 rfl) mv_X10_set ml_RX10_66 (As := [.int (xa1 + (0 : Int32)), .int x8]) (t_X10_set (d := d - 1) hl (by omega) e0) (by omega) rfl (Nat.le_of_ble_eq_true rfl) ?_
    refine r_aload_n (dc_X10_lays 48 rfl) rfl rfl ?_
    refine r_iload_n (dc_X10_lays 49 rfl) rfl rfl ?_
    refine r_iconst (dc_X10_lays 50 rfl) kiconst_1 ?_
    refine r_iadd (dc_X10_lays 51 rfl) ?_
    refine r_iload (dc_X10_lays 52 rfl) rfl ?_
    obtain ⟨s10, e0, h⟩ := Option.bind_eq_some_iff.mp h
    refine r_callV (dc_X10_lays 53 rfl) mv_X10_set ml_RX10_66 (As := [.int (xa1 + (1 : Int32)), .int x6]) (t_X10_set (d := d - 1) hl (by omega) e0) (by omega) rfl (Nat.le_of_ble_eq_true rfl) ?_
    refine r_iconst (dc_X10_lays 54 rfl) kiconst_0 ?_
    refine r_istore (dc_X10_lays 55 rfl) (by decide) (lo' := [(6, .int (0 : Int32)), (0, .ref a0), (1, .int xa1), (4, .int x1), (5, .int x6)]) rfl ?_
    refine r_pick [1, 2, 3, 4, 0] (lo' := [(0, .ref a0), (1, .int xa1), (4, .int x1), (5, .int x6), (6, .int (0 : Int32))]) rfl ?_
    refine l_X10_lays_L99 hl hd (hk132 := ?_) fu _ _ h
    · intro s13 h
      refine r_iload (dc_X10_lays 73 rfl) rfl ?_
      cases h
      exact r_ireturn (dc_X10_lays 74 rfl) rfl
theorem t_X10_greater {G : Gx} {d : Nat} (hl : G.1.stackTraces = false) (hd : 1 ≤ d) {σ : Sto} {a0 : Nat} {xa1 : Int32} {xa2 : Int32} {r : Sto} (h : F_X10_greater σ a0 xa1 xa2 = some r) : Mi G d m_X10_greater 10 a0 [.int xa1, .int xa2] σ (.inl none) r := by
  rw [F_X10_greater] at h
  obtain ⟨hg, h⟩ := chk_some h
  refine ⟨J.toMt (lo := [(0, .ref a0), (1, .int xa1), (2, .int xa2)]) pn_RX10 rfl hl (Nat.le_of_ble_eq_true rfl) rfl ?_, hg⟩
  refine r_iload_n (dc_X10_greater 0 rfl) rfl rfl ?_
  refine r_aload_n (dc_X10_greater 1 rfl) rfl rfl ?_
  refine r_iload_n (dc_X10_greater 2 rfl) rfl rfl ?_
  obtain ⟨x1, e0, h⟩ := Option.bind_eq_some_iff.mp h
  refine r_callV (dc_X10_greater 3 rfl) mv_X10_of ml_RX10_62 (As := [.int xa1]) (t_X10_of (d := d - 1) hl (by omega) e0) (by omega) rfl (Nat.le_of_ble_eq_true rfl) ?_
  refine r_icmp_le (dc_X10_greater 4 rfl) (tgt := 15) (by decide) (fun c0 => ?_) (fun c0 => ?_)
  · rw [if_pos c0] at h
    cases h
    exact r_vreturn (dc_X10_greater 9 rfl) rfl
  · rw [if_neg c0] at h
    refine r_aload_n (dc_X10_greater 5 rfl) rfl rfl ?_
    refine r_iload_n (dc_X10_greater 6 rfl) rfl rfl ?_
    refine r_iload_n (dc_X10_greater 7 rfl) rfl rfl ?_
    obtain ⟨s2, e0, h⟩ := Option.bind_eq_some_iff.mp h
    refine r_callV (dc_X10_greater 8 rfl) mv_X10_set ml_RX10_66 (As := [.int xa1, .int xa2]) (t_X10_set (d := d - 1) hl (by omega) e0) (by omega) rfl (Nat.le_of_ble_eq_true rfl) ?_
    cases h
    exact r_vreturn (dc_X10_greater 9 rfl) rfl
theorem l_X10_raises_L3 {G : Gx} {d : Nat} (hl : G.1.stackTraces = false) (hd : 2 ≤ d) {pL0 : Nat} {xL1 : Int32} {xL2 : Int32} {xL3 : Int32} {xL4 : Int32} {r : Sto} {k46 : Sto → Option Sto}
    (hk46 : ∀ (sL : Sto), k46 sL = some r → J G d m_X10_raises 46 [] [] sL (.inl none) r)
  : ∀ (f : Nat) (xL5 : Int32) (sL : Sto), F_X10_raises_L3 pL0 xL1 xL2 xL3 xL4 f xL5 sL k46 = some r → J G d m_X10_raises 3 [(0, .ref pL0), (1, .int xL1), (2, .int xL2), (3, .int xL3), (4, .int xL4), (5, .int xL5)] [] sL (.inl none) r := by
  intro f
  induction f with
  | zero => intro xL5 sL h; rw [F_X10_raises_L3] at h; cases h
  | succ f ih =>
    intro xL5 sL h
    rw [F_X10_raises_L3] at h
    refine r_iload (dc_X10_raises 2 rfl) rfl ?_
    refine r_aload_n (dc_X10_raises 3 rfl) rfl rfl ?_
    refine r_iconst (dc_X10_raises 4 rfl) kiconst_0 ?_
    obtain ⟨x1, e0, h⟩ := Option.bind_eq_some_iff.mp h
    refine r_callV (dc_X10_raises 5 rfl) mv_X10_of ml_RX10_62 (As := [.int (0 : Int32)]) (t_X10_of (d := d - 1) hl (by omega) e0) (by omega) rfl (Nat.le_of_ble_eq_true rfl) ?_
    refine r_icmp_ge (dc_X10_raises 6 rfl) (tgt := 46) (by decide) (fun c0 => ?_) (fun c0 => ?_)
    · rw [if_pos c0] at h
      refine r_pick [] (lo' := []) rfl ?_
      exact hk46 _ h
    · rw [if_neg c0] at h
      refine r_aload_n (dc_X10_raises 7 rfl) rfl rfl ?_
      refine r_iload_n (dc_X10_raises 8 rfl) rfl rfl ?_
      refine r_iload_n (dc_X10_raises 9 rfl) rfl rfl ?_
      refine r_iload (dc_X10_raises 10 rfl) rfl ?_
      obtain ⟨x2, e0, h⟩ := Option.bind_eq_some_iff.mp h
      refine r_callS (dc_X10_raises 11 rfl) ms_X10_cellOf ml_RX10_117 (As := [.int xL1, .int xL2, .int xL5]) (t_X10_cellOf (d := d - 1) hl (by omega) e0) (by omega) rfl (Nat.le_of_ble_eq_true rfl) ?_
      refine r_aload_n (dc_X10_raises 12 rfl) rfl rfl ?_
      refine r_iload_n (dc_X10_raises 13 rfl) rfl rfl ?_
      refine r_bipush (dc_X10_raises 14 rfl) kbipush_122 ?_
      refine r_iadd (dc_X10_raises 15 rfl) ?_
      refine r_iconst (dc_X10_raises 16 rfl) kiconst_5 ?_
      refine r_iload (dc_X10_raises 17 rfl) rfl ?_
      refine r_imul (dc_X10_raises 18 rfl) ?_
      refine r_iadd (dc_X10_raises 19 rfl) ?_
      refine r_iload (dc_X10_raises 20 rfl) rfl ?_
      refine r_iadd (dc_X10_raises 21 rfl) ?_
      obtain ⟨x3, e0, h⟩ := Option.bind_eq_some_iff.mp h
      refine r_callV (dc_X10_raises 22 rfl) mv_X10_of ml_RX10_62 (As := [.int (((xL3 + (122 : Int32)) + ((5 : Int32) * xL4)) + xL5)]) (t_X10_of (d := d - 1) hl (by omega) e0) (by omega) rfl (Nat.le_of_ble_eq_true rfl) ?_
      obtain ⟨s4, e0, h⟩ := Option.bind_eq_some_iff.mp h
      refine r_callV (dc_X10_raises 23 rfl) mv_X10_greater ml_RX10_166 (As := [.int x2, .int x3]) (t_X10_greater (d := d - 1) hl (by omega) e0) (by omega) rfl (Nat.le_of_ble_eq_true rfl) ?_
      refine r_iinc (dc_X10_raises 24 rfl) rfl (kinc_1 _) (by decide) (lo' := [(5, .int (xL5 + (1 : Int32))), (0, .ref pL0), (1, .int xL1), (2, .int xL2), (3, .int xL3), (4, .int xL4)]) rfl ?_
      refine r_goto (dc_X10_raises 25 rfl) (tgt := 3) (by decide) ?_
      refine r_pick [1, 2, 3, 4, 5, 0] (lo' := [(0, .ref pL0), (1, .int xL1), (2, .int xL2), (3, .int xL3), (4, .int xL4), (5, .int (xL5 + (1 : Int32)))]) rfl ?_
      exact ih _ _ h
theorem t_X10_raises {G : Gx} {d : Nat} (hl : G.1.stackTraces = false) (hd : 2 ≤ d) {σ : Sto} {a0 : Nat} {xa1 : Int32} {xa2 : Int32} {xa3 : Int32} {xa4 : Int32} {r : Sto} (h : F_X10_raises σ a0 xa1 xa2 xa3 xa4 = some r) : Mi G d m_X10_raises 10 a0 [.int xa1, .int xa2, .int xa3, .int xa4] σ (.inl none) r := by
  rw [F_X10_raises] at h
  obtain ⟨hg, h⟩ := chk_some h
  refine ⟨J.toMt (lo := [(0, .ref a0), (1, .int xa1), (2, .int xa2), (3, .int xa3), (4, .int xa4)]) pn_RX10 rfl hl (Nat.le_of_ble_eq_true rfl) rfl ?_, hg⟩
  refine r_iconst (dc_X10_raises 0 rfl) kiconst_0 ?_
  refine r_istore (dc_X10_raises 1 rfl) (by decide) (lo' := [(5, .int (0 : Int32)), (0, .ref a0), (1, .int xa1), (2, .int xa2), (3, .int xa3), (4, .int xa4)]) rfl ?_
  refine r_pick [1, 2, 3, 4, 5, 0] (lo' := [(0, .ref a0), (1, .int xa1), (2, .int xa2), (3, .int xa3), (4, .int xa4), (5, .int (0 : Int32))]) rfl ?_
  refine l_X10_raises_L3 hl hd (hk46 := ?_) fu _ _ h
  · intro s5 h
    cases h
    exact r_vreturn (dc_X10_raises 26 rfl) rfl
theorem l_X10_tables_L40 {G : Gx} {d : Nat} (hl : G.1.stackTraces = false) (hd : 3 ≤ d) {pL0 : Nat} {xL1 : Int32} {xL2 : Int32} {xL3 : Int32} {xL4 : Int32} {r : Sto} {k71 : Sto → Option Sto}
    (hk71 : ∀ (sL : Sto), k71 sL = some r → J G d m_X10_tables 71 [(0, .ref pL0), (1, .int xL1), (2, .int xL2), (3, .int xL3), (4, .int xL4)] [] sL (.inl none) r)
  : ∀ (f : Nat) (xL5 : Int32) (sL : Sto), F_X10_tables_L40 pL0 xL1 xL3 xL4 f xL5 sL k71 = some r → J G d m_X10_tables 40 [(0, .ref pL0), (1, .int xL1), (2, .int xL2), (3, .int xL3), (4, .int xL4), (5, .int xL5)] [] sL (.inl none) r := by
  intro f
  induction f with
  | zero => intro xL5 sL h; rw [F_X10_tables_L40] at h; cases h
  | succ f ih =>
    intro xL5 sL h
    rw [F_X10_tables_L40] at h
    refine r_iload (dc_X10_tables 26 rfl) rfl ?_
    refine r_aload_n (dc_X10_tables 27 rfl) rfl rfl ?_
    refine r_iconst (dc_X10_tables 28 rfl) kiconst_0 ?_
    obtain ⟨x6, e0, h⟩ := Option.bind_eq_some_iff.mp h
    refine r_callV (dc_X10_tables 29 rfl) mv_X10_of ml_RX10_62 (As := [.int (0 : Int32)]) (t_X10_of (d := d - 1) hl (by omega) e0) (by omega) rfl (Nat.le_of_ble_eq_true rfl) ?_
    refine r_icmp_ge (dc_X10_tables 30 rfl) (tgt := 71) (by decide) (fun c0 => ?_) (fun c0 => ?_)
    · rw [if_pos c0] at h
      refine r_pick [0, 1, 2, 3, 4] (lo' := [(0, .ref pL0), (1, .int xL1), (2, .int xL2), (3, .int xL3), (4, .int xL4)]) rfl ?_
      exact hk71 _ h
    · rw [if_neg c0] at h
      refine r_iload (dc_X10_tables 31 rfl) rfl ?_
      refine r_if_ne (dc_X10_tables 32 rfl) (tgt := 71) (by decide) (fun c0 => ?_) (fun c0 => ?_)
      · rw [if_neg c0] at h
        refine r_pick [0, 1, 2, 3, 4] (lo' := [(0, .ref pL0), (1, .int xL1), (2, .int xL2), (3, .int xL3), (4, .int xL4)]) rfl ?_
        exact hk71 _ h
      · rw [if_pos c0] at h
        refine r_aload_n (dc_X10_tables 33 rfl) rfl rfl ?_
        refine r_iload_n (dc_X10_tables 34 rfl) rfl rfl ?_
        refine r_iload (dc_X10_tables 35 rfl) rfl ?_
        refine r_iload_n (dc_X10_tables 36 rfl) rfl rfl ?_
        refine r_iload (dc_X10_tables 37 rfl) rfl ?_
        obtain ⟨s7, e0, h⟩ := Option.bind_eq_some_iff.mp h
        refine r_callV (dc_X10_tables 38 rfl) mv_X10_raises ml_RX10_169 (As := [.int xL3, .int xL5, .int xL1, .int xL5]) (t_X10_raises (d := d - 1) hl (by omega) e0) (by omega) rfl (Nat.le_of_ble_eq_true rfl) ?_
        refine r_iinc (dc_X10_tables 39 rfl) rfl (kinc_1 _) (by decide) (lo' := [(5, .int (xL5 + (1 : Int32))), (0, .ref pL0), (1, .int xL1), (2, .int xL2), (3, .int xL3), (4, .int xL4)]) rfl ?_
        refine r_goto (dc_X10_tables 40 rfl) (tgt := 40) (by decide) ?_
        refine r_pick [1, 2, 3, 4, 5, 0] (lo' := [(0, .ref pL0), (1, .int xL1), (2, .int xL2), (3, .int xL3), (4, .int xL4), (5, .int (xL5 + (1 : Int32)))]) rfl ?_
        exact ih _ _ h
theorem l_X10_tables_L74 {G : Gx} {d : Nat} (hl : G.1.stackTraces = false) (hd : 3 ≤ d) {pL0 : Nat} {xL1 : Int32} {xL2 : Int32} {xL3 : Int32} {xL4 : Int32} {r : Sto} {k152 : Sto → Option Sto}
    (hk152 : ∀ (sL : Sto), k152 sL = some r → J G d m_X10_tables 152 [] [] sL (.inl none) r)
  : ∀ (f : Nat) (xL5 : Int32) (sL : Sto), F_X10_tables_L74 pL0 xL1 xL2 xL3 xL4 f xL5 sL k152 = some r → J G d m_X10_tables 74 [(0, .ref pL0), (1, .int xL1), (2, .int xL2), (3, .int xL3), (4, .int xL4), (5, .int xL5)] [] sL (.inl none) r := by
  intro f
  induction f with
  | zero => intro xL5 sL h; rw [F_X10_tables_L74] at h; cases h
  | succ f ih =>
    intro xL5 sL h
    rw [F_X10_tables_L74] at h
    refine r_iload (dc_X10_tables 43 rfl) rfl ?_
    refine r_aload_n (dc_X10_tables 44 rfl) rfl rfl ?_
    refine r_iload_n (dc_X10_tables 45 rfl) rfl rfl ?_
    refine r_iconst (dc_X10_tables 46 rfl) kiconst_1 ?_
    refine r_iadd (dc_X10_tables 47 rfl) ?_
    obtain ⟨x9, e0, h⟩ := Option.bind_eq_some_iff.mp h
    refine r_callV (dc_X10_tables 48 rfl) mv_X10_of ml_RX10_62 (As := [.int (xL1 + (1 : Int32))]) (t_X10_of (d := d - 1) hl (by omega) e0) (by omega) rfl (Nat.le_of_ble_eq_true rfl) ?_
    refine r_icmp_ge (dc_X10_tables 49 rfl) (tgt := 152) (by decide) (fun c0 => ?_) (fun c0 => ?_)
    · rw [if_pos c0] at h
      refine r_pick [] (lo' := []) rfl ?_
      exact hk152 _ h
    · rw [if_neg c0] at h
      refine r_iload (dc_X10_tables 50 rfl) rfl ?_
      refine r_iconst (dc_X10_tables 51 rfl) kiconst_2 ?_
      refine r_icmp_ne (dc_X10_tables 52 rfl) (tgt := 152) (by decide) (fun c0 => ?_) (fun c0 => ?_)
      · rw [if_neg c0] at h
        refine r_pick [] (lo' := []) rfl ?_
        exact hk152 _ h
      · rw [if_pos c0] at h
        refine r_aload_n (dc_X10_tables 53 rfl) rfl rfl ?_
        refine r_iload_n (dc_X10_tables 54 rfl) rfl rfl ?_
        refine r_iconst (dc_X10_tables 55 rfl) kiconst_2 ?_
        refine r_iadd (dc_X10_tables 56 rfl) ?_
        refine r_iload (dc_X10_tables 57 rfl) rfl ?_
        refine r_iadd (dc_X10_tables 58 rfl) ?_
        obtain ⟨x10, e0, h⟩ := Option.bind_eq_some_iff.mp h
        refine r_callV (dc_X10_tables 59 rfl) mv_X10_of ml_RX10_62 (As := [.int ((xL1 + (2 : Int32)) + xL5)]) (t_X10_of (d := d - 1) hl (by omega) e0) (by omega) rfl (Nat.le_of_ble_eq_true rfl) ?_
        refine r_istore (dc_X10_tables 60 rfl) (by decide) (lo' := [(6, .int x10), (0, .ref pL0), (1, .int xL1), (2, .int xL2), (3, .int xL3), (4, .int xL4), (5, .int xL5)]) rfl ?_
        refine r_aload_n (dc_X10_tables 61 rfl) rfl rfl ?_
        refine r_iload_n (dc_X10_tables 62 rfl) rfl rfl ?_
        refine r_iload_n (dc_X10_tables 63 rfl) rfl rfl ?_
        refine r_aload_n (dc_X10_tables 64 rfl) rfl rfl ?_
        refine r_iload (dc_X10_tables 65 rfl) rfl ?_
        obtain ⟨x11, e0, h⟩ := Option.bind_eq_some_iff.mp h
        refine r_callV (dc_X10_tables 66 rfl) mv_X10_siteOf ml_RX10_114 (As := [.int x10]) (t_X10_siteOf (d := d - 1) hl (by omega) e0) (by omega) rfl (Nat.le_of_ble_eq_true rfl) ?_
        obtain ⟨x12, e0, h⟩ := Option.bind_eq_some_iff.mp h
        refine r_callS (dc_X10_tables 67 rfl) ms_X10_cellOf ml_RX10_117 (As := [.int xL3, .int xL3, .int x11]) (t_X10_cellOf (d := d - 1) hl (by omega) e0) (by omega) rfl (Nat.le_of_ble_eq_true rfl) ?_
        refine r_aload_n (dc_X10_tables 68 rfl) rfl rfl ?_
        refine r_iload (dc_X10_tables 69 rfl) rfl ?_
        obtain ⟨x13, e0, h⟩ := Option.bind_eq_some_iff.mp h
        refine r_callV (dc_X10_tables 70 rfl) mv_X10_timeOf ml_RX10_121 (As := [.int x10]) (t_X10_timeOf (d := d - 1) hl (by omega) e0) (by omega) rfl (Nat.le_of_ble_eq_true rfl) ?_
        obtain ⟨s14, e0, h⟩ := Option.bind_eq_some_iff.mp h
        refine r_callV (dc_X10_tables 71 rfl) mv_X10_greater ml_RX10_166 (As := [.int x12, .int x13]) (t_X10_greater (d := d - 1) hl (by omega) e0) (by omega) rfl (Nat.le_of_ble_eq_true rfl) ?_
        refine r_aload_n (dc_X10_tables 72 rfl) rfl rfl ?_
        refine r_iload_n (dc_X10_tables 73 rfl) rfl rfl ?_
        refine r_iload_n (dc_X10_tables 74 rfl) rfl rfl ?_
        refine r_aload_n (dc_X10_tables 75 rfl) rfl rfl ?_
        refine r_iload (dc_X10_tables 76 rfl) rfl ?_
        obtain ⟨x15, e0, h⟩ := Option.bind_eq_some_iff.mp h
        refine r_callV (dc_X10_tables 77 rfl) mv_X10_siteOf ml_RX10_114 (As := [.int x10]) (t_X10_siteOf (d := d - 1) hl (by omega) e0) (by omega) rfl (Nat.le_of_ble_eq_true rfl) ?_
        obtain ⟨x16, e0, h⟩ := Option.bind_eq_some_iff.mp h
        refine r_callS (dc_X10_tables 78 rfl) ms_X10_cellOf ml_RX10_117 (As := [.int xL3, .int xL2, .int x15]) (t_X10_cellOf (d := d - 1) hl (by omega) e0) (by omega) rfl (Nat.le_of_ble_eq_true rfl) ?_
        refine r_aload_n (dc_X10_tables 79 rfl) rfl rfl ?_
        refine r_iload (dc_X10_tables 80 rfl) rfl ?_
        obtain ⟨x17, e0, h⟩ := Option.bind_eq_some_iff.mp h
        refine r_callV (dc_X10_tables 81 rfl) mv_X10_timeOf ml_RX10_121 (As := [.int x10]) (t_X10_timeOf (d := d - 1) hl (by omega) e0) (by omega) rfl (Nat.le_of_ble_eq_true rfl) ?_
        obtain ⟨s18, e0, h⟩ := Option.bind_eq_some_iff.mp h
        refine r_callV (dc_X10_tables 82 rfl) mv_X10_greater ml_RX10_166 (As := [.int x16, .int x17]) (t_X10_greater (d := d - 1) hl (by omega) e0) (by omega) rfl (Nat.le_of_ble_eq_true rfl) ?_
        refine r_iinc (dc_X10_tables 83 rfl) rfl (kinc_1 _) (by decide) (lo' := [(5, .int (xL5 + (1 : Int32))), (6, .int x10), (0, .ref pL0), (1, .int xL1), (2, .int xL2), (3, .int xL3), (4, .int xL4)]) rfl ?_
        refine r_goto (dc_X10_tables 84 rfl) (tgt := 74) (by decide) ?_
        refine r_pick [2, 3, 4, 5, 6, 0] (lo' := [(0, .ref pL0), (1, .int xL1), (2, .int xL2), (3, .int xL3), (4, .int xL4), (5, .int (xL5 + (1 : Int32)))]) rfl ?_
        exact ih _ _ h
