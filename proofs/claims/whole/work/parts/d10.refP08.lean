theorem l_X10_way_L58 {G : Gx} {d : Nat} (hl : G.1.stackTraces = false) (hd : 3 ≤ d) {sL : Sto} {pL0 : Nat} {xL2 : Int32} {xL3 : Int32} {r : (Int32 × Sto)} {k136 : Int32 → Option (Int32 × Sto)}
    (hk136 : ∀ (xL5 : Int32), k136 xL5 = some r → J G d m_X10_way 136 [(3, .int xL3), (5, .int xL5)] [] sL (.inl (some (.int r.1))) r.2)
  : ∀ (f : Nat) (xL4 : Int32) (xL5 : Int32) (xL6 : Int32), F_X10_way_L58 sL pL0 xL2 xL3 f xL4 xL5 xL6 k136 = some r → J G d m_X10_way 58 [(0, .ref pL0), (2, .int xL2), (3, .int xL3), (4, .int xL4), (5, .int xL5), (6, .int xL6)] [] sL (.inl (some (.int r.1))) r.2 := by
  intro f
  induction f with
  | zero => intro xL4 xL5 xL6 h; rw [F_X10_way_L58] at h; cases h
  | succ f ih =>
    intro xL4 xL5 xL6 h
    rw [F_X10_way_L58] at h
    refine r_iload (dc_X10_way 35 rfl) rfl ?_
    refine r_if_eq (dc_X10_way 36 rfl) (tgt := 136) (by decide) (fun c0 => ?_) (fun c0 => ?_)
    · rw [if_pos c0] at h
      refine r_pick [2, 4] (lo' := [(3, .int xL3), (5, .int xL5)]) rfl ?_
      exact hk136 _ h
    · rw [if_neg c0] at h
      refine r_iload (dc_X10_way 37 rfl) rfl ?_
      refine r_iload_n (dc_X10_way 38 rfl) rfl rfl ?_
      refine r_icmp_ne (dc_X10_way 39 rfl) (tgt := 72) (by decide) (fun c0 => ?_) (fun c0 => ?_)
      · rw [if_neg c0] at h
        refine r_iinc (dc_X10_way 42 rfl) rfl (kinc_1 _) (by decide) (lo' := [(5, .int (xL5 + (1 : Int32))), (0, .ref pL0), (2, .int xL2), (3, .int xL3), (4, .int xL4), (6, .int xL6)]) rfl ?_
        refine r_aload_n (dc_X10_way 43 rfl) rfl rfl ?_
        obtain ⟨p8, e0, h⟩ := Option.bind_eq_some_iff.mp h
        refine r_getR (dc_X10_way 44 rfl) fl_RX10_14 e0 ?_
        refine r_iload (dc_X10_way 45 rfl) rfl ?_
        obtain ⟨x9, e0, h⟩ := Option.bind_eq_some_iff.mp h
        refine r_callS (dc_X10_way 46 rfl) ms_X10_stateOf ml_RX10_111 (As := [.int xL4]) (t_X10_stateOf (d := d - 1) hl (by omega) e0) (by omega) rfl (Nat.le_of_ble_eq_true rfl) ?_
        refine r_sipush (dc_X10_way 47 rfl) ksipush_274 ?_
        refine r_iadd (dc_X10_way 48 rfl) ?_
        refine r_iload_n (dc_X10_way 49 rfl) rfl rfl ?_
        refine r_iadd (dc_X10_way 50 rfl) ?_
        obtain ⟨x10, e0, h⟩ := Option.bind_eq_some_iff.mp h
        refine r_iald (dc_X10_way 51 rfl) e0 ?_
        refine r_istore (dc_X10_way 52 rfl) (by decide) (lo' := [(7, .int x10), (5, .int (xL5 + (1 : Int32))), (0, .ref pL0), (2, .int xL2), (3, .int xL3), (4, .int xL4), (6, .int xL6)]) rfl ?_
        refine r_aload_n (dc_X10_way 53 rfl) rfl rfl ?_
        refine r_iload (dc_X10_way 54 rfl) rfl ?_
        refine r_iload_n (dc_X10_way 55 rfl) rfl rfl ?_
        refine r_iconst (dc_X10_way 56 rfl) kiconst_1 ?_
        obtain ⟨x11, e0, h⟩ := Option.bind_eq_some_iff.mp h
        refine r_callV (dc_X10_way 57 rfl) mv_X10_doesHave ml_RX10_226 (As := [.int xL4, .int xL2, .int (1 : Int32)]) (t_X10_doesHave (d := d - 1) hl (by omega) e0) (by omega) rfl (Nat.le_of_ble_eq_true rfl) ?_
        refine r_if_eq (dc_X10_way 58 rfl) (tgt := 126) (by decide) (fun c0 => ?_) (fun c0 => ?_)
        · rw [if_pos c0] at h
          refine r_iconst (dc_X10_way 70 rfl) kiconst_0 ?_
          refine r_istore (dc_X10_way 71 rfl) (by decide) (lo' := [(6, .int (0 : Int32)), (7, .int x10), (5, .int (xL5 + (1 : Int32))), (0, .ref pL0), (2, .int xL2), (3, .int xL3), (4, .int xL4)]) rfl ?_
          refine r_iload (dc_X10_way 72 rfl) rfl ?_
          refine r_istore (dc_X10_way 73 rfl) (by decide) (lo' := [(4, .int x10), (6, .int (0 : Int32)), (7, .int x10), (5, .int (xL5 + (1 : Int32))), (0, .ref pL0), (2, .int xL2), (3, .int xL3)]) rfl ?_
          refine r_goto (dc_X10_way 74 rfl) (tgt := 58) (by decide) ?_
          refine r_pick [4, 5, 6, 0, 3, 1] (lo' := [(0, .ref pL0), (2, .int xL2), (3, .int xL3), (4, .int x10), (5, .int (xL5 + (1 : Int32))), (6, .int (0 : Int32))]) rfl ?_
          exact ih _ _ _ h
        · rw [if_neg c0] at h
          refine r_iload (dc_X10_way 59 rfl) rfl ?_
          refine r_iload (dc_X10_way 60 rfl) rfl ?_
          refine r_icmp_eq (dc_X10_way 61 rfl) (tgt := 126) (by decide) (fun c0 => ?_) (fun c0 => ?_)
          · rw [if_pos c0] at h
            refine r_iconst (dc_X10_way 70 rfl) kiconst_0 ?_
            refine r_istore (dc_X10_way 71 rfl) (by decide) (lo' := [(6, .int (0 : Int32)), (7, .int x10), (5, .int (xL5 + (1 : Int32))), (0, .ref pL0), (2, .int xL2), (3, .int xL3), (4, .int xL4)]) rfl ?_
            refine r_iload (dc_X10_way 72 rfl) rfl ?_
            refine r_istore (dc_X10_way 73 rfl) (by decide) (lo' := [(4, .int x10), (6, .int (0 : Int32)), (7, .int x10), (5, .int (xL5 + (1 : Int32))), (0, .ref pL0), (2, .int xL2), (3, .int xL3)]) rfl ?_
            refine r_goto (dc_X10_way 74 rfl) (tgt := 58) (by decide) ?_
            refine r_pick [4, 5, 6, 0, 3, 1] (lo' := [(0, .ref pL0), (2, .int xL2), (3, .int xL3), (4, .int x10), (5, .int (xL5 + (1 : Int32))), (6, .int (0 : Int32))]) rfl ?_
            exact ih _ _ _ h
          · rw [if_neg c0] at h
            refine r_iload (dc_X10_way 62 rfl) rfl ?_
            refine r_aload_n (dc_X10_way 63 rfl) rfl rfl ?_
            obtain ⟨p12, e0, h⟩ := Option.bind_eq_some_iff.mp h
            refine r_getR (dc_X10_way 64 rfl) fl_RX10_14 e0 ?_
            refine r_iconst (dc_X10_way 65 rfl) kiconst_0 ?_
            obtain ⟨x13, e0, h⟩ := Option.bind_eq_some_iff.mp h
            refine r_iald (dc_X10_way 66 rfl) e0 ?_
            refine r_icmp_ge (dc_X10_way 67 rfl) (tgt := 126) (by decide) (fun c0 => ?_) (fun c0 => ?_)
            · rw [if_pos c0] at h
              refine r_iconst (dc_X10_way 70 rfl) kiconst_0 ?_
              refine r_istore (dc_X10_way 71 rfl) (by decide) (lo' := [(6, .int (0 : Int32)), (7, .int x10), (5, .int (xL5 + (1 : Int32))), (0, .ref pL0), (2, .int xL2), (3, .int xL3), (4, .int xL4)]) rfl ?_
              refine r_iload (dc_X10_way 72 rfl) rfl ?_
              refine r_istore (dc_X10_way 73 rfl) (by decide) (lo' := [(4, .int x10), (6, .int (0 : Int32)), (7, .int x10), (5, .int (xL5 + (1 : Int32))), (0, .ref pL0), (2, .int xL2), (3, .int xL3)]) rfl ?_
              refine r_goto (dc_X10_way 74 rfl) (tgt := 58) (by decide) ?_
              refine r_pick [4, 5, 6, 0, 3, 1] (lo' := [(0, .ref pL0), (2, .int xL2), (3, .int xL3), (4, .int x10), (5, .int (xL5 + (1 : Int32))), (6, .int (0 : Int32))]) rfl ?_
              exact ih _ _ _ h
            · rw [if_neg c0] at h
              refine r_iconst (dc_X10_way 68 rfl) kiconst_1 ?_
              refine r_goto (dc_X10_way 69 rfl) (tgt := 127) (by decide) ?_
              refine r_istore (dc_X10_way 71 rfl) (by decide) (lo' := [(6, .int (1 : Int32)), (7, .int x10), (5, .int (xL5 + (1 : Int32))), (0, .ref pL0), (2, .int xL2), (3, .int xL3), (4, .int xL4)]) rfl ?_
              refine r_iload (dc_X10_way 72 rfl) rfl ?_
              refine r_istore (dc_X10_way 73 rfl) (by decide) (lo' := [(4, .int x10), (6, .int (1 : Int32)), (7, .int x10), (5, .int (xL5 + (1 : Int32))), (0, .ref pL0), (2, .int xL2), (3, .int xL3)]) rfl ?_
              refine r_goto (dc_X10_way 74 rfl) (tgt := 58) (by decide) ?_
              refine r_pick [4, 5, 6, 0, 3, 1] (lo' := [(0, .ref pL0), (2, .int xL2), (3, .int xL3), (4, .int x10), (5, .int (xL5 + (1 : Int32))), (6, .int (1 : Int32))]) rfl ?_
              exact ih _ _ _ h
      · rw [if_pos c0] at h
        refine r_iload (dc_X10_way 40 rfl) rfl ?_
        cases h
        exact r_ireturn (dc_X10_way 41 rfl) rfl
theorem t_X10_way {G : Gx} {d : Nat} (hl : G.1.stackTraces = false) (hd : 3 ≤ d) {σ : Sto} {a0 : Nat} {xa1 : Int32} {xa2 : Int32} {xa3 : Int32} {r : (Int32 × Sto)} (h : F_X10_way σ a0 xa1 xa2 xa3 = some r) : Mi G d m_X10_way 10 a0 [.int xa1, .int xa2, .int xa3] σ (.inl (some (.int r.1))) r.2 := by
  rw [F_X10_way] at h
  obtain ⟨hg, h⟩ := chk_some h
  refine ⟨J.toMt (lo := [(0, .ref a0), (1, .int xa1), (2, .int xa2), (3, .int xa3)]) pn_RX10 rfl hl (Nat.le_of_ble_eq_true rfl) rfl ?_, hg⟩
  refine r_aload_n (dc_X10_way 0 rfl) rfl rfl ?_
  refine r_iconst (dc_X10_way 1 rfl) kiconst_0 ?_
  obtain ⟨s1, e0, h⟩ := Option.bind_eq_some_iff.mp h
  refine r_put (dc_X10_way 2 rfl) pl_RX10_1 rfl e0 ?_
  refine r_aload_n (dc_X10_way 3 rfl) rfl rfl ?_
  refine r_iconst (dc_X10_way 4 rfl) kiconst_0 ?_
  obtain ⟨s2, e0, h⟩ := Option.bind_eq_some_iff.mp h
  refine r_put (dc_X10_way 5 rfl) pl_RX10_59 rfl e0 ?_
  refine r_aload_n (dc_X10_way 6 rfl) rfl rfl ?_
  refine r_iload_n (dc_X10_way 7 rfl) rfl rfl ?_
  obtain ⟨x3, e0, h⟩ := Option.bind_eq_some_iff.mp h
  refine r_callV (dc_X10_way 8 rfl) mv_X10_isSite ml_RX10_93 (As := [.int xa1]) (t_X10_isSite (d := d - 1) hl (by omega) e0) (by omega) rfl (Nat.le_of_ble_eq_true rfl) ?_
  refine r_if_eq (dc_X10_way 9 rfl) (tgt := 26) (by decide) (fun c0 => ?_) (fun c0 => ?_)
  · rw [if_pos c0] at h
    refine r_aload_n (dc_X10_way 14 rfl) rfl rfl ?_
    refine r_iconst (dc_X10_way 15 rfl) kiconst_1 ?_
    obtain ⟨x5, s4, e0, h⟩ := wb_some h
    refine r_callV (dc_X10_way 16 rfl) mv_X10_fails ml_RX10_101 (As := [.int (1 : Int32)]) (t_X10_fails (d := d - 1) hl (by omega) e0) (by omega) rfl (Nat.le_of_ble_eq_true rfl) ?_
    cases h
    exact r_ireturn (dc_X10_way 17 rfl) rfl
  · rw [if_neg c0] at h
    refine r_aload_n (dc_X10_way 10 rfl) rfl rfl ?_
    refine r_iload_n (dc_X10_way 11 rfl) rfl rfl ?_
    obtain ⟨x6, e0, h⟩ := Option.bind_eq_some_iff.mp h
    refine r_callV (dc_X10_way 12 rfl) mv_X10_isEvent ml_RX10_156 (As := [.int xa2]) (t_X10_isEvent (d := d - 1) hl (by omega) e0) (by omega) rfl (Nat.le_of_ble_eq_true rfl) ?_
    refine r_if_ne (dc_X10_way 13 rfl) (tgt := 32) (by decide) (fun c0 => ?_) (fun c0 => ?_)
    · rw [if_neg c0] at h
      refine r_aload_n (dc_X10_way 18 rfl) rfl rfl ?_
      refine r_iload_n (dc_X10_way 19 rfl) rfl rfl ?_
      refine r_iload_n (dc_X10_way 20 rfl) rfl rfl ?_
      refine r_iconst (dc_X10_way 21 rfl) kiconst_0 ?_
      obtain ⟨x7, e0, h⟩ := Option.bind_eq_some_iff.mp h
      refine r_callV (dc_X10_way 22 rfl) mv_X10_doesHave ml_RX10_226 (As := [.int xa1, .int xa2, .int (0 : Int32)]) (t_X10_doesHave (d := d - 1) hl (by omega) e0) (by omega) rfl (Nat.le_of_ble_eq_true rfl) ?_
      refine r_if_ne (dc_X10_way 23 rfl) (tgt := 47) (by decide) (fun c0 => ?_) (fun c0 => ?_)
      · rw [if_neg c0] at h
        refine r_iconst (dc_X10_way 27 rfl) kiconst_m1 ?_
        cases h
        exact r_ireturn (dc_X10_way 28 rfl) rfl
      · rw [if_pos c0] at h
        refine r_iload_n (dc_X10_way 24 rfl) rfl rfl ?_
        refine r_iconst (dc_X10_way 25 rfl) kiconst_m1 ?_
        refine r_icmp_ge (dc_X10_way 26 rfl) (tgt := 49) (by decide) (fun c0 => ?_) (fun c0 => ?_)
        · rw [if_pos c0] at h
          refine r_iload_n (dc_X10_way 29 rfl) rfl rfl ?_
          refine r_istore (dc_X10_way 30 rfl) (by decide) (lo' := [(4, .int xa1), (0, .ref a0), (1, .int xa1), (2, .int xa2), (3, .int xa3)]) rfl ?_
          refine r_iconst (dc_X10_way 31 rfl) kiconst_0 ?_
          refine r_istore (dc_X10_way 32 rfl) (by decide) (lo' := [(5, .int (0 : Int32)), (4, .int xa1), (0, .ref a0), (1, .int xa1), (2, .int xa2), (3, .int xa3)]) rfl ?_
          refine r_iconst (dc_X10_way 33 rfl) kiconst_1 ?_
          refine r_istore (dc_X10_way 34 rfl) (by decide) (lo' := [(6, .int (1 : Int32)), (5, .int (0 : Int32)), (4, .int xa1), (0, .ref a0), (1, .int xa1), (2, .int xa2), (3, .int xa3)]) rfl ?_
          refine r_pick [3, 5, 6, 2, 1, 0] (lo' := [(0, .ref a0), (2, .int xa2), (3, .int xa3), (4, .int xa1), (5, .int (0 : Int32)), (6, .int (1 : Int32))]) rfl ?_
          refine l_X10_way_L58 hl hd (hk136 := ?_) fu _ _ _ h
          · intro x14 h
            refine r_iload_n (dc_X10_way 75 rfl) rfl rfl ?_
            refine r_iconst (dc_X10_way 76 rfl) kiconst_m1 ?_
            refine r_icmp_ne (dc_X10_way 77 rfl) (tgt := 146) (by decide) (fun c0 => ?_) (fun c0 => ?_)
            · rw [if_neg c0] at h
              refine r_iconst (dc_X10_way 80 rfl) kiconst_m1 ?_
              cases h
              exact r_ireturn (dc_X10_way 81 rfl) rfl
            · rw [if_pos c0] at h
              refine r_iload (dc_X10_way 78 rfl) rfl ?_
              refine r_goto (dc_X10_way 79 rfl) (tgt := 147) (by decide) ?_
              cases h
              exact r_ireturn (dc_X10_way 81 rfl) rfl
        · rw [if_neg c0] at h
          refine r_iconst (dc_X10_way 27 rfl) kiconst_m1 ?_
          cases h
          exact r_ireturn (dc_X10_way 28 rfl) rfl
    · rw [if_pos c0] at h
      refine r_aload_n (dc_X10_way 14 rfl) rfl rfl ?_
      refine r_iconst (dc_X10_way 15 rfl) kiconst_1 ?_
      obtain ⟨x16, s15, e0, h⟩ := wb_some h
      refine r_callV (dc_X10_way 16 rfl) mv_X10_fails ml_RX10_101 (As := [.int (1 : Int32)]) (t_X10_fails (d := d - 1) hl (by omega) e0) (by omega) rfl (Nat.le_of_ble_eq_true rfl) ?_
      cases h
      exact r_ireturn (dc_X10_way 17 rfl) rfl
theorem l_X10_slowest_L62 {G : Gx} {d : Nat} (hl : G.1.stackTraces = false) (hd : 4 ≤ d) {sL : Sto} {pL0 : Nat} {xL1 : Int32} {xL2 : Int32} {xL3 : Int32} {xL4 : Int32} {r : (Int32 × Sto)} {k125 : Int32 → Option (Int32 × Sto)}
    (hk125 : ∀ (xL5 : Int32), k125 xL5 = some r → J G d m_X10_slowest 125 [(0, .ref pL0), (1, .int xL1), (2, .int xL2), (3, .int xL3), (4, .int xL4), (5, .int xL5)] [] sL (.inl (some (.int r.1))) r.2)
  : ∀ (f : Nat) (xL5 : Int32) (xL6 : Int32), F_X10_slowest_L62 sL pL0 xL4 f xL5 xL6 k125 = some r → J G d m_X10_slowest 62 [(0, .ref pL0), (1, .int xL1), (2, .int xL2), (3, .int xL3), (4, .int xL4), (5, .int xL5), (6, .int xL6)] [] sL (.inl (some (.int r.1))) r.2 := by
  intro f
  induction f with
  | zero => intro xL5 xL6 h; rw [F_X10_slowest_L62] at h; cases h
  | succ f ih =>
    intro xL5 xL6 h
    rw [F_X10_slowest_L62] at h
    refine r_iload (dc_X10_slowest 37 rfl) rfl ?_
    refine r_aload_n (dc_X10_slowest 38 rfl) rfl rfl ?_
    obtain ⟨p7, e0, h⟩ := Option.bind_eq_some_iff.mp h
    refine r_getR (dc_X10_slowest 39 rfl) fl_RX10_14 e0 ?_
    refine r_iconst (dc_X10_slowest 40 rfl) kiconst_0 ?_
    obtain ⟨x8, e0, h⟩ := Option.bind_eq_some_iff.mp h
    refine r_iald (dc_X10_slowest 41 rfl) e0 ?_
    refine r_icmp_ge (dc_X10_slowest 42 rfl) (tgt := 125) (by decide) (fun c0 => ?_) (fun c0 => ?_)
    · rw [if_pos c0] at h
      refine r_pick [0, 1, 2, 3, 4, 5] (lo' := [(0, .ref pL0), (1, .int xL1), (2, .int xL2), (3, .int xL3), (4, .int xL4), (5, .int xL5)]) rfl ?_
      exact hk125 _ h
    · rw [if_neg c0] at h
      refine r_aload_n (dc_X10_slowest 43 rfl) rfl rfl ?_
      obtain ⟨p9, e0, h⟩ := Option.bind_eq_some_iff.mp h
      refine r_getR (dc_X10_slowest 44 rfl) fl_RX10_14 e0 ?_
      refine r_iload (dc_X10_slowest 45 rfl) rfl ?_
      obtain ⟨x10, e0, h⟩ := Option.bind_eq_some_iff.mp h
      refine r_callS (dc_X10_slowest 46 rfl) ms_X10_stateOf ml_RX10_111 (As := [.int xL6]) (t_X10_stateOf (d := d - 1) hl (by omega) e0) (by omega) rfl (Nat.le_of_ble_eq_true rfl) ?_
      refine r_sipush (dc_X10_slowest 47 rfl) ksipush_154 ?_
      refine r_iadd (dc_X10_slowest 48 rfl) ?_
      refine r_iload (dc_X10_slowest 49 rfl) rfl ?_
      refine r_iadd (dc_X10_slowest 50 rfl) ?_
      obtain ⟨x11, e0, h⟩ := Option.bind_eq_some_iff.mp h
      refine r_iald (dc_X10_slowest 51 rfl) e0 ?_
      refine r_iload (dc_X10_slowest 52 rfl) rfl ?_
      refine r_icmp_le (dc_X10_slowest 53 rfl) (tgt := 115) (by decide) (fun c0 => ?_) (fun c0 => ?_)
      · rw [if_pos c0] at h
        refine r_iload (dc_X10_slowest 64 rfl) rfl ?_
        refine r_istore (dc_X10_slowest 65 rfl) (by decide) (lo' := [(5, .int xL5), (0, .ref pL0), (1, .int xL1), (2, .int xL2), (3, .int xL3), (4, .int xL4), (6, .int xL6)]) rfl ?_
        refine r_iinc (dc_X10_slowest 66 rfl) rfl (kinc_1 _) (by decide) (lo' := [(6, .int (xL6 + (1 : Int32))), (5, .int xL5), (0, .ref pL0), (1, .int xL1), (2, .int xL2), (3, .int xL3), (4, .int xL4)]) rfl ?_
        refine r_goto (dc_X10_slowest 67 rfl) (tgt := 62) (by decide) ?_
        refine r_pick [2, 3, 4, 5, 6, 1, 0] (lo' := [(0, .ref pL0), (1, .int xL1), (2, .int xL2), (3, .int xL3), (4, .int xL4), (5, .int xL5), (6, .int (xL6 + (1 : Int32)))]) rfl ?_
        exact ih _ _ h
      · rw [if_neg c0] at h
        refine r_aload_n (dc_X10_slowest 54 rfl) rfl rfl ?_
        obtain ⟨p12, e0, h⟩ := Option.bind_eq_some_iff.mp h
        refine r_getR (dc_X10_slowest 55 rfl) fl_RX10_14 e0 ?_
        refine r_iload (dc_X10_slowest 56 rfl) rfl ?_
        obtain ⟨x13, e0, h⟩ := Option.bind_eq_some_iff.mp h
        refine r_callS (dc_X10_slowest 57 rfl) ms_X10_stateOf ml_RX10_111 (As := [.int xL6]) (t_X10_stateOf (d := d - 1) hl (by omega) e0) (by omega) rfl (Nat.le_of_ble_eq_true rfl) ?_
        refine r_sipush (dc_X10_slowest 58 rfl) ksipush_154 ?_
        refine r_iadd (dc_X10_slowest 59 rfl) ?_
        refine r_iload (dc_X10_slowest 60 rfl) rfl ?_
        refine r_iadd (dc_X10_slowest 61 rfl) ?_
        obtain ⟨x14, e0, h⟩ := Option.bind_eq_some_iff.mp h
        refine r_iald (dc_X10_slowest 62 rfl) e0 ?_
        refine r_goto (dc_X10_slowest 63 rfl) (tgt := 117) (by decide) ?_
        refine r_istore (dc_X10_slowest 65 rfl) (by decide) (lo' := [(5, .int x14), (0, .ref pL0), (1, .int xL1), (2, .int xL2), (3, .int xL3), (4, .int xL4), (6, .int xL6)]) rfl ?_
        refine r_iinc (dc_X10_slowest 66 rfl) rfl (kinc_1 _) (by decide) (lo' := [(6, .int (xL6 + (1 : Int32))), (5, .int x14), (0, .ref pL0), (1, .int xL1), (2, .int xL2), (3, .int xL3), (4, .int xL4)]) rfl ?_
        refine r_goto (dc_X10_slowest 67 rfl) (tgt := 62) (by decide) ?_
        refine r_pick [2, 3, 4, 5, 6, 1, 0] (lo' := [(0, .ref pL0), (1, .int xL1), (2, .int xL2), (3, .int xL3), (4, .int xL4), (5, .int x14), (6, .int (xL6 + (1 : Int32)))]) rfl ?_
        exact ih _ _ h
theorem l_X10_slowest_L33 {G : Gx} {d : Nat} (hl : G.1.stackTraces = false) (hd : 4 ≤ d) {sL : Sto} {pL0 : Nat} {xL1 : Int32} {r : (Int32 × Sto)} {k168 : Int32 → Int32 → Option (Int32 × Sto)}
    (hk168 : ∀ (xL2 : Int32) (xL3 : Int32), k168 xL2 xL3 = some r → J G d m_X10_slowest 168 [(1, .int xL1), (2, .int xL2), (3, .int xL3)] [] sL (.inl (some (.int r.1))) r.2)
  : ∀ (f : Nat) (xL2 : Int32) (xL3 : Int32) (xL4 : Int32), F_X10_slowest_L33 sL pL0 f xL2 xL3 xL4 k168 = some r → J G d m_X10_slowest 33 [(0, .ref pL0), (1, .int xL1), (2, .int xL2), (3, .int xL3), (4, .int xL4)] [] sL (.inl (some (.int r.1))) r.2 := by
  intro f
  induction f with
  | zero => intro xL2 xL3 xL4 h; rw [F_X10_slowest_L33] at h; cases h
  | succ f ih =>
    intro xL2 xL3 xL4 h
    rw [F_X10_slowest_L33] at h
    refine r_iload (dc_X10_slowest 22 rfl) rfl ?_
    refine r_aload_n (dc_X10_slowest 23 rfl) rfl rfl ?_
    obtain ⟨p4, e0, h⟩ := Option.bind_eq_some_iff.mp h
    refine r_getR (dc_X10_slowest 24 rfl) fl_RX10_14 e0 ?_
    refine r_iconst (dc_X10_slowest 25 rfl) kiconst_2 ?_
    obtain ⟨x5, e0, h⟩ := Option.bind_eq_some_iff.mp h
    refine r_iald (dc_X10_slowest 26 rfl) e0 ?_
    refine r_icmp_ge (dc_X10_slowest 27 rfl) (tgt := 168) (by decide) (fun c0 => ?_) (fun c0 => ?_)
    · rw [if_pos c0] at h
      refine r_pick [1, 2, 3] (lo' := [(1, .int xL1), (2, .int xL2), (3, .int xL3)]) rfl ?_
      exact hk168 _ _ h
    · rw [if_neg c0] at h
      refine r_aload_n (dc_X10_slowest 28 rfl) rfl rfl ?_
      refine r_iload (dc_X10_slowest 29 rfl) rfl ?_
      obtain ⟨x6, e0, h⟩ := Option.bind_eq_some_iff.mp h
      refine r_callV (dc_X10_slowest 30 rfl) mv_X10_allHave ml_RX10_287 (As := [.int xL4]) (t_X10_allHave (d := d - 1) hl (by omega) e0) (by omega) rfl (Nat.le_of_ble_eq_true rfl) ?_
      refine r_if_ne (dc_X10_slowest 31 rfl) (tgt := 56) (by decide) (fun c0 => ?_) (fun c0 => ?_)
      · rw [if_neg c0] at h
        refine r_iconst (dc_X10_slowest 33 rfl) kiconst_0 ?_
        refine r_istore (dc_X10_slowest 34 rfl) (by decide) (lo' := [(5, .int (0 : Int32)), (0, .ref pL0), (1, .int xL1), (2, .int xL2), (3, .int xL3), (4, .int xL4)]) rfl ?_
        refine r_iconst (dc_X10_slowest 35 rfl) kiconst_0 ?_
        refine r_istore (dc_X10_slowest 36 rfl) (by decide) (lo' := [(6, .int (0 : Int32)), (5, .int (0 : Int32)), (0, .ref pL0), (1, .int xL1), (2, .int xL2), (3, .int xL3), (4, .int xL4)]) rfl ?_
        refine r_pick [2, 3, 4, 5, 6, 1, 0] (lo' := [(0, .ref pL0), (1, .int xL1), (2, .int xL2), (3, .int xL3), (4, .int xL4), (5, .int (0 : Int32)), (6, .int (0 : Int32))]) rfl ?_
        refine l_X10_slowest_L62 hl hd (hk125 := ?_) fu _ _ h
        · intro x15 h
          refine r_iload (dc_X10_slowest 68 rfl) rfl ?_
          refine r_aload_n (dc_X10_slowest 69 rfl) rfl rfl ?_
          obtain ⟨p16, e0, h⟩ := Option.bind_eq_some_iff.mp h
          refine r_getR (dc_X10_slowest 70 rfl) fl_RX10_14 e0 ?_
          refine r_iload (dc_X10_slowest 71 rfl) rfl ?_
          obtain ⟨x17, e0, h⟩ := Option.bind_eq_some_iff.mp h
          refine r_callS (dc_X10_slowest 72 rfl) ms_X10_eventOf ml_RX10_108 (As := [.int xL4]) (t_X10_eventOf (d := d - 1) hl (by omega) e0) (by omega) rfl (Nat.le_of_ble_eq_true rfl) ?_
          refine r_iconst (dc_X10_slowest 73 rfl) kiconst_5 ?_
          refine r_iadd (dc_X10_slowest 74 rfl) ?_
          obtain ⟨x18, e0, h⟩ := Option.bind_eq_some_iff.mp h
          refine r_iald (dc_X10_slowest 75 rfl) e0 ?_
          refine r_isub (dc_X10_slowest 76 rfl) ?_
          refine r_istore (dc_X10_slowest 77 rfl) (by decide) (lo' := [(6, .int (x15 - x18)), (0, .ref pL0), (1, .int xL1), (2, .int xL2), (3, .int xL3), (4, .int xL4), (5, .int x15)]) rfl ?_
          refine r_iload_n (dc_X10_slowest 78 rfl) rfl rfl ?_
          refine r_iconst (dc_X10_slowest 79 rfl) kiconst_m1 ?_
          refine r_icmp_eq (dc_X10_slowest 80 rfl) (tgt := 156) (by decide) (fun c0 => ?_) (fun c0 => ?_)
          · rw [if_pos c0] at h
            refine r_iload (dc_X10_slowest 85 rfl) rfl ?_
            refine r_istore_n (dc_X10_slowest 86 rfl) rfl (by decide) (lo' := [(2, .int xL4), (6, .int (x15 - x18)), (0, .ref pL0), (1, .int xL1), (3, .int xL3), (4, .int xL4), (5, .int x15)]) rfl ?_
            refine r_iload (dc_X10_slowest 87 rfl) rfl ?_
            refine r_istore_n (dc_X10_slowest 88 rfl) rfl (by decide) (lo' := [(3, .int (x15 - x18)), (2, .int xL4), (6, .int (x15 - x18)), (0, .ref pL0), (1, .int xL1), (4, .int xL4), (5, .int x15)]) rfl ?_
            refine r_iinc (dc_X10_slowest 89 rfl) rfl (kinc_1 _) (by decide) (lo' := [(4, .int (xL4 + (1 : Int32))), (3, .int (x15 - x18)), (2, .int xL4), (6, .int (x15 - x18)), (0, .ref pL0), (1, .int xL1), (5, .int x15)]) rfl ?_
            refine r_goto (dc_X10_slowest 90 rfl) (tgt := 33) (by decide) ?_
            refine r_pick [4, 5, 2, 1, 0] (lo' := [(0, .ref pL0), (1, .int xL1), (2, .int xL4), (3, .int (x15 - x18)), (4, .int (xL4 + (1 : Int32)))]) rfl ?_
            exact ih _ _ _ h
          · rw [if_neg c0] at h
            refine r_iload (dc_X10_slowest 81 rfl) rfl ?_
            refine r_iload_n (dc_X10_slowest 82 rfl) rfl rfl ?_
            refine r_icmp_gt (dc_X10_slowest 83 rfl) (tgt := 156) (by decide) (fun c0 => ?_) (fun c0 => ?_)
            · rw [if_pos c0] at h
              refine r_iload (dc_X10_slowest 85 rfl) rfl ?_
              refine r_istore_n (dc_X10_slowest 86 rfl) rfl (by decide) (lo' := [(2, .int xL4), (6, .int (x15 - x18)), (0, .ref pL0), (1, .int xL1), (3, .int xL3), (4, .int xL4), (5, .int x15)]) rfl ?_
              refine r_iload (dc_X10_slowest 87 rfl) rfl ?_
              refine r_istore_n (dc_X10_slowest 88 rfl) rfl (by decide) (lo' := [(3, .int (x15 - x18)), (2, .int xL4), (6, .int (x15 - x18)), (0, .ref pL0), (1, .int xL1), (4, .int xL4), (5, .int x15)]) rfl ?_
              refine r_iinc (dc_X10_slowest 89 rfl) rfl (kinc_1 _) (by decide) (lo' := [(4, .int (xL4 + (1 : Int32))), (3, .int (x15 - x18)), (2, .int xL4), (6, .int (x15 - x18)), (0, .ref pL0), (1, .int xL1), (5, .int x15)]) rfl ?_
              refine r_goto (dc_X10_slowest 90 rfl) (tgt := 33) (by decide) ?_
              refine r_pick [4, 5, 2, 1, 0] (lo' := [(0, .ref pL0), (1, .int xL1), (2, .int xL4), (3, .int (x15 - x18)), (4, .int (xL4 + (1 : Int32)))]) rfl ?_
              exact ih _ _ _ h
            · rw [if_neg c0] at h
              refine r_goto (dc_X10_slowest 84 rfl) (tgt := 162) (by decide) ?_
              refine r_iinc (dc_X10_slowest 89 rfl) rfl (kinc_1 _) (by decide) (lo' := [(4, .int (xL4 + (1 : Int32))), (6, .int (x15 - x18)), (0, .ref pL0), (1, .int xL1), (2, .int xL2), (3, .int xL3), (5, .int x15)]) rfl ?_
              refine r_goto (dc_X10_slowest 90 rfl) (tgt := 33) (by decide) ?_
              refine r_pick [2, 3, 4, 5, 0] (lo' := [(0, .ref pL0), (1, .int xL1), (2, .int xL2), (3, .int xL3), (4, .int (xL4 + (1 : Int32)))]) rfl ?_
              exact ih _ _ _ h
      · rw [if_pos c0] at h
        refine r_goto (dc_X10_slowest 32 rfl) (tgt := 162) (by decide) ?_
        refine r_iinc (dc_X10_slowest 89 rfl) rfl (kinc_1 _) (by decide) (lo' := [(4, .int (xL4 + (1 : Int32))), (0, .ref pL0), (1, .int xL1), (2, .int xL2), (3, .int xL3)]) rfl ?_
        refine r_goto (dc_X10_slowest 90 rfl) (tgt := 33) (by decide) ?_
        refine r_pick [1, 2, 3, 4, 0] (lo' := [(0, .ref pL0), (1, .int xL1), (2, .int xL2), (3, .int xL3), (4, .int (xL4 + (1 : Int32)))]) rfl ?_
        exact ih _ _ _ h
theorem t_X10_slowest {G : Gx} {d : Nat} (hl : G.1.stackTraces = false) (hd : 4 ≤ d) {σ : Sto} {a0 : Nat} {xa1 : Int32} {r : (Int32 × Sto)} (h : F_X10_slowest σ a0 xa1 = some r) : Mi G d m_X10_slowest 10 a0 [.int xa1] σ (.inl (some (.int r.1))) r.2 := by
  rw [F_X10_slowest] at h
  obtain ⟨hg, h⟩ := chk_some h
  refine ⟨J.toMt (lo := [(0, .ref a0), (1, .int xa1)]) pn_RX10 rfl hl (Nat.le_of_ble_eq_true rfl) rfl ?_, hg⟩
  refine r_aload_n (dc_X10_slowest 0 rfl) rfl rfl ?_
  refine r_iconst (dc_X10_slowest 1 rfl) kiconst_0 ?_
  obtain ⟨s1, e0, h⟩ := Option.bind_eq_some_iff.mp h
  refine r_put (dc_X10_slowest 2 rfl) pl_RX10_1 rfl e0 ?_
  refine r_aload_n (dc_X10_slowest 3 rfl) rfl rfl ?_
  refine r_iconst (dc_X10_slowest 4 rfl) kiconst_0 ?_
  obtain ⟨s2, e0, h⟩ := Option.bind_eq_some_iff.mp h
  refine r_put (dc_X10_slowest 5 rfl) pl_RX10_59 rfl e0 ?_
  refine r_iload_n (dc_X10_slowest 6 rfl) rfl rfl ?_
  refine r_i2l (dc_X10_slowest 7 rfl) ?_
  refine r_lconst (dc_X10_slowest 8 rfl) klconst_0 ?_
  refine r_lconst (dc_X10_slowest 9 rfl) klconst_1 ?_
  obtain ⟨x3, e0, h⟩ := Option.bind_eq_some_iff.mp h
  refine r_callS (dc_X10_slowest 10 rfl) ms_X10_isIn ml_RX10_89 (As := [.long xa1.toInt64, .long (0 : Int64), .long (1 : Int64)]) (t_X10_isIn (d := d - 1) hl (by omega) e0) (by omega) rfl (Nat.le_of_ble_eq_true rfl) ?_
  refine r_if_ne (dc_X10_slowest 11 rfl) (tgt := 26) (by decide) (fun c0 => ?_) (fun c0 => ?_)
  · rw [if_neg c0] at h
    refine r_iconst (dc_X10_slowest 16 rfl) kiconst_m1 ?_
    refine r_istore_n (dc_X10_slowest 17 rfl) rfl (by decide) (lo' := [(2, .int (-1 : Int32)), (0, .ref a0), (1, .int xa1)]) rfl ?_
    refine r_iconst (dc_X10_slowest 18 rfl) kiconst_m1 ?_
    refine r_istore_n (dc_X10_slowest 19 rfl) rfl (by decide) (lo' := [(3, .int (-1 : Int32)), (2, .int (-1 : Int32)), (0, .ref a0), (1, .int xa1)]) rfl ?_
    refine r_iconst (dc_X10_slowest 20 rfl) kiconst_0 ?_
    refine r_istore (dc_X10_slowest 21 rfl) (by decide) (lo' := [(4, .int (0 : Int32)), (3, .int (-1 : Int32)), (2, .int (-1 : Int32)), (0, .ref a0), (1, .int xa1)]) rfl ?_
    refine r_pick [3, 4, 2, 1, 0] (lo' := [(0, .ref a0), (1, .int xa1), (2, .int (-1 : Int32)), (3, .int (-1 : Int32)), (4, .int (0 : Int32))]) rfl ?_
    refine l_X10_slowest_L33 hl hd (hk168 := ?_) fu _ _ _ h
    · intro x19 x20 h
      refine r_iload_n (dc_X10_slowest 91 rfl) rfl rfl ?_
      refine r_if_ne (dc_X10_slowest 92 rfl) (tgt := 176) (by decide) (fun c0 => ?_) (fun c0 => ?_)
      · rw [if_neg c0] at h
        refine r_iload_n (dc_X10_slowest 95 rfl) rfl rfl ?_
        cases h
        exact r_ireturn (dc_X10_slowest 96 rfl) rfl
      · rw [if_pos c0] at h
        refine r_iload_n (dc_X10_slowest 93 rfl) rfl rfl ?_
        refine r_goto (dc_X10_slowest 94 rfl) (tgt := 177) (by decide) ?_
        cases h
        exact r_ireturn (dc_X10_slowest 96 rfl) rfl
  · rw [if_pos c0] at h
    refine r_aload_n (dc_X10_slowest 12 rfl) rfl rfl ?_
    refine r_iconst (dc_X10_slowest 13 rfl) kiconst_1 ?_
    obtain ⟨x22, s21, e0, h⟩ := wb_some h
    refine r_callV (dc_X10_slowest 14 rfl) mv_X10_fails ml_RX10_101 (As := [.int (1 : Int32)]) (t_X10_fails (d := d - 1) hl (by omega) e0) (by omega) rfl (Nat.le_of_ble_eq_true rfl) ?_
    cases h
    exact r_ireturn (dc_X10_slowest 15 rfl) rfl
theorem l_X10_chain_L50 {G : Gx} {d : Nat} (hl : G.1.stackTraces = false) (hd : 5 ≤ d) {sL : Sto} {pL0 : Nat} {xL2 : Int32} {r : (Int32 × Sto)} {k72 : Int32 → Option (Int32 × Sto)}
    (hk72 : ∀ (xL3 : Int32), k72 xL3 = some r → J G d m_X10_chain 72 [(3, .int xL3)] [] sL (.inl (some (.int r.1))) r.2)
  : ∀ (f : Nat) (xL3 : Int32), F_X10_chain_L50 sL pL0 xL2 f xL3 k72 = some r → J G d m_X10_chain 50 [(0, .ref pL0), (2, .int xL2), (3, .int xL3)] [] sL (.inl (some (.int r.1))) r.2 := by
  intro f
  induction f with
  | zero => intro xL3 h; rw [F_X10_chain_L50] at h; cases h
  | succ f ih =>
    intro xL3 h
    rw [F_X10_chain_L50] at h
    refine r_aload_n (dc_X10_chain 32 rfl) rfl rfl ?_
    obtain ⟨p8, e0, h⟩ := Option.bind_eq_some_iff.mp h
    refine r_getR (dc_X10_chain 33 rfl) fl_RX10_31 e0 ?_
    refine r_iload_n (dc_X10_chain 34 rfl) rfl rfl ?_
    obtain ⟨x9, e0, h⟩ := Option.bind_eq_some_iff.mp h
    refine r_iald (dc_X10_chain 35 rfl) e0 ?_
    refine r_iload_n (dc_X10_chain 36 rfl) rfl rfl ?_
    refine r_iconst (dc_X10_chain 37 rfl) kiconst_1 ?_
    refine r_iadd (dc_X10_chain 38 rfl) ?_
    refine r_icmp_le (dc_X10_chain 39 rfl) (tgt := 72) (by decide) (fun c0 => ?_) (fun c0 => ?_)
    · rw [if_pos c0] at h
      refine r_pick [2] (lo' := [(3, .int xL3)]) rfl ?_
      exact hk72 _ h
    · rw [if_neg c0] at h
      refine r_aload_n (dc_X10_chain 40 rfl) rfl rfl ?_
      obtain ⟨p10, e0, h⟩ := Option.bind_eq_some_iff.mp h
      refine r_getR (dc_X10_chain 41 rfl) fl_RX10_34 e0 ?_
      refine r_iload_n (dc_X10_chain 42 rfl) rfl rfl ?_
      obtain ⟨x11, e0, h⟩ := Option.bind_eq_some_iff.mp h
      refine r_iald (dc_X10_chain 43 rfl) e0 ?_
      refine r_istore_n (dc_X10_chain 44 rfl) rfl (by decide) (lo' := [(3, .int x11), (0, .ref pL0), (2, .int xL2)]) rfl ?_
      refine r_goto (dc_X10_chain 45 rfl) (tgt := 50) (by decide) ?_
      refine r_pick [1, 2, 0] (lo' := [(0, .ref pL0), (2, .int xL2), (3, .int x11)]) rfl ?_
      exact ih _ h
theorem t_X10_chain {G : Gx} {d : Nat} (hl : G.1.stackTraces = false) (hd : 5 ≤ d) {σ : Sto} {a0 : Nat} {xa1 : Int32} {xa2 : Int32} {r : (Int32 × Sto)} (h : F_X10_chain σ a0 xa1 xa2 = some r) : Mi G d m_X10_chain 10 a0 [.int xa1, .int xa2] σ (.inl (some (.int r.1))) r.2 := by
  rw [F_X10_chain] at h
  obtain ⟨hg, h⟩ := chk_some h
  refine ⟨J.toMt (lo := [(0, .ref a0), (1, .int xa1), (2, .int xa2)]) pn_RX10 rfl hl (Nat.le_of_ble_eq_true rfl) rfl ?_, hg⟩
  refine r_aload_n (dc_X10_chain 0 rfl) rfl rfl ?_
  refine r_iconst (dc_X10_chain 1 rfl) kiconst_0 ?_
  obtain ⟨s1, e0, h⟩ := Option.bind_eq_some_iff.mp h
  refine r_put (dc_X10_chain 2 rfl) pl_RX10_1 rfl e0 ?_
  refine r_aload_n (dc_X10_chain 3 rfl) rfl rfl ?_
  refine r_iconst (dc_X10_chain 4 rfl) kiconst_0 ?_
  obtain ⟨s2, e0, h⟩ := Option.bind_eq_some_iff.mp h
  refine r_put (dc_X10_chain 5 rfl) pl_RX10_59 rfl e0 ?_
  refine r_aload_n (dc_X10_chain 6 rfl) rfl rfl ?_
  refine r_iload_n (dc_X10_chain 7 rfl) rfl rfl ?_
  obtain ⟨x3, e0, h⟩ := Option.bind_eq_some_iff.mp h
  refine r_callV (dc_X10_chain 8 rfl) mv_X10_isEvent ml_RX10_156 (As := [.int xa1]) (t_X10_isEvent (d := d - 1) hl (by omega) e0) (by omega) rfl (Nat.le_of_ble_eq_true rfl) ?_
  refine r_if_ne (dc_X10_chain 9 rfl) (tgt := 24) (by decide) (fun c0 => ?_) (fun c0 => ?_)
  · rw [if_neg c0] at h
    refine r_aload_n (dc_X10_chain 14 rfl) rfl rfl ?_
    obtain ⟨s4, e0, h⟩ := Option.bind_eq_some_iff.mp h
    refine r_callV (dc_X10_chain 15 rfl) mv_X10_laysHeights ml_RX10_319 (As := []) (t_X10_laysHeights (d := d - 1) hl (by omega) e0) (by omega) rfl (Nat.le_of_ble_eq_true rfl) ?_
    refine r_iload_n (dc_X10_chain 16 rfl) rfl rfl ?_
    refine r_i2l (dc_X10_chain 17 rfl) ?_
    refine r_lconst (dc_X10_chain 18 rfl) klconst_0 ?_
    refine r_aload_n (dc_X10_chain 19 rfl) rfl rfl ?_
    obtain ⟨p5, e0, h⟩ := Option.bind_eq_some_iff.mp h
    refine r_getR (dc_X10_chain 20 rfl) fl_RX10_31 e0 ?_
    refine r_iload_n (dc_X10_chain 21 rfl) rfl rfl ?_
    obtain ⟨x6, e0, h⟩ := Option.bind_eq_some_iff.mp h
    refine r_iald (dc_X10_chain 22 rfl) e0 ?_
    refine r_iconst (dc_X10_chain 23 rfl) kiconst_1 ?_
    refine r_isub (dc_X10_chain 24 rfl) ?_
    refine r_i2l (dc_X10_chain 25 rfl) ?_
    obtain ⟨x7, e0, h⟩ := Option.bind_eq_some_iff.mp h
    refine r_callS (dc_X10_chain 26 rfl) ms_X10_isIn ml_RX10_89 (As := [.long xa2.toInt64, .long (0 : Int64), .long (x6 - (1 : Int32)).toInt64]) (t_X10_isIn (d := d - 1) hl (by omega) e0) (by omega) rfl (Nat.le_of_ble_eq_true rfl) ?_
    refine r_if_ne (dc_X10_chain 27 rfl) (tgt := 48) (by decide) (fun c0 => ?_) (fun c0 => ?_)
    · rw [if_neg c0] at h
      refine r_iload_n (dc_X10_chain 30 rfl) rfl rfl ?_
      refine r_istore_n (dc_X10_chain 31 rfl) rfl (by decide) (lo' := [(3, .int xa1), (0, .ref a0), (1, .int xa1), (2, .int xa2)]) rfl ?_
      refine r_pick [1, 3, 0] (lo' := [(0, .ref a0), (2, .int xa2), (3, .int xa1)]) rfl ?_
      refine l_X10_chain_L50 hl hd (hk72 := ?_) fu _ h
      · intro x12 h
        refine r_iload_n (dc_X10_chain 46 rfl) rfl rfl ?_
        cases h
        exact r_ireturn (dc_X10_chain 47 rfl) rfl
    · rw [if_pos c0] at h
      refine r_iconst (dc_X10_chain 28 rfl) kiconst_m1 ?_
      cases h
      exact r_ireturn (dc_X10_chain 29 rfl) rfl
  · rw [if_pos c0] at h
    refine r_aload_n (dc_X10_chain 10 rfl) rfl rfl ?_
    refine r_iconst (dc_X10_chain 11 rfl) kiconst_1 ?_
    obtain ⟨x14, s13, e0, h⟩ := wb_some h
    refine r_callV (dc_X10_chain 12 rfl) mv_X10_fails ml_RX10_101 (As := [.int (1 : Int32)]) (t_X10_fails (d := d - 1) hl (by omega) e0) (by omega) rfl (Nat.le_of_ble_eq_true rfl) ?_
    cases h
    exact r_ireturn (dc_X10_chain 13 rfl) rfl
theorem l_X10_between_L37 {G : Gx} {d : Nat} (hl : G.1.stackTraces = false) (hd : 3 ≤ d) {sL : Sto} {pL0 : Nat} {xL1 : Int32} {xL2 : Int32} {r : (Int32 × Sto)} {k85 : Int32 → Option (Int32 × Sto)}
    (hk85 : ∀ (xL3 : Int32), k85 xL3 = some r → J G d m_X10_between 85 [(3, .int xL3)] [] sL (.inl (some (.int r.1))) r.2)
  : ∀ (f : Nat) (xL3 : Int32) (xL4 : Int32), F_X10_between_L37 sL pL0 xL1 xL2 f xL3 xL4 k85 = some r → J G d m_X10_between 37 [(0, .ref pL0), (1, .int xL1), (2, .int xL2), (3, .int xL3), (4, .int xL4)] [] sL (.inl (some (.int r.1))) r.2 := by
  intro f
  induction f with
  | zero => intro xL3 xL4 h; rw [F_X10_between_L37] at h; cases h
  | succ f ih =>
    intro xL3 xL4 h
    rw [F_X10_between_L37] at h
    refine r_iload (dc_X10_between 22 rfl) rfl ?_
    refine r_aload_n (dc_X10_between 23 rfl) rfl rfl ?_
    obtain ⟨p7, e0, h⟩ := Option.bind_eq_some_iff.mp h
    refine r_getR (dc_X10_between 24 rfl) fl_RX10_14 e0 ?_
    refine r_iconst (dc_X10_between 25 rfl) kiconst_2 ?_
    obtain ⟨x8, e0, h⟩ := Option.bind_eq_some_iff.mp h
    refine r_iald (dc_X10_between 26 rfl) e0 ?_
    refine r_icmp_ge (dc_X10_between 27 rfl) (tgt := 85) (by decide) (fun c0 => ?_) (fun c0 => ?_)
    · rw [if_pos c0] at h
      refine r_pick [3] (lo' := [(3, .int xL3)]) rfl ?_
      exact hk85 _ h
    · rw [if_neg c0] at h
      refine r_iload_n (dc_X10_between 28 rfl) rfl rfl ?_
      refine r_aload_n (dc_X10_between 29 rfl) rfl rfl ?_
      refine r_iload_n (dc_X10_between 30 rfl) rfl rfl ?_
      refine r_iload (dc_X10_between 31 rfl) rfl ?_
      obtain ⟨x9, e0, h⟩ := Option.bind_eq_some_iff.mp h
      refine r_callV (dc_X10_between 32 rfl) mv_X10_isAhead ml_RX10_307 (As := [.int xL1, .int xL4]) (t_X10_isAhead (d := d - 1) hl (by omega) e0) (by omega) rfl (Nat.le_of_ble_eq_true rfl) ?_
      refine jn_elim h (Q := fun (j : Int32 → Option (Int32 × Sto)) => ∀ (x11 : Int32), j x11 = some r → J G d m_X10_between 74 [(0, .ref pL0), (1, .int xL1), (2, .int xL2), (4, .int xL4)] [.int x11, .int xL3] sL (.inl (some (.int r.1))) r.2) ?_ (fun j10 hj10 h => ?_)
      · intro x11 h
        obtain ⟨x12, e0, h⟩ := Option.bind_eq_some_iff.mp h
        refine r_callS (dc_X10_between 42 rfl) ms_X10_flag ml_RX10_74 (As := [.int x11]) (t_X10_flag (d := d - 1) hl (by omega) e0) (by omega) rfl (Nat.le_of_ble_eq_true rfl) ?_
        refine r_iadd (dc_X10_between 43 rfl) ?_
        refine r_istore_n (dc_X10_between 44 rfl) rfl (by decide) (lo' := [(3, .int (xL3 + x12)), (0, .ref pL0), (1, .int xL1), (2, .int xL2), (4, .int xL4)]) rfl ?_
        refine r_iinc (dc_X10_between 45 rfl) rfl (kinc_1 _) (by decide) (lo' := [(4, .int (xL4 + (1 : Int32))), (3, .int (xL3 + x12)), (0, .ref pL0), (1, .int xL1), (2, .int xL2)]) rfl ?_
        refine r_goto (dc_X10_between 46 rfl) (tgt := 37) (by decide) ?_
        refine r_pick [2, 3, 4, 1, 0] (lo' := [(0, .ref pL0), (1, .int xL1), (2, .int xL2), (3, .int (xL3 + x12)), (4, .int (xL4 + (1 : Int32)))]) rfl ?_
        exact ih _ _ h
      refine r_if_eq (dc_X10_between 33 rfl) (tgt := 73) (by decide) (fun c0 => ?_) (fun c0 => ?_)
      · rw [if_pos c0] at h
        refine r_iconst (dc_X10_between 41 rfl) kiconst_0 ?_
        refine r_pick [0, 1, 2, 4] (lo' := [(0, .ref pL0), (1, .int xL1), (2, .int xL2), (4, .int xL4)]) rfl ?_
        exact hj10 _ h
      · rw [if_neg c0] at h
        refine r_aload_n (dc_X10_between 34 rfl) rfl rfl ?_
        refine r_iload (dc_X10_between 35 rfl) rfl ?_
        refine r_iload_n (dc_X10_between 36 rfl) rfl rfl ?_
        obtain ⟨x13, e0, h⟩ := Option.bind_eq_some_iff.mp h
        refine r_callV (dc_X10_between 37 rfl) mv_X10_isAhead ml_RX10_307 (As := [.int xL4, .int xL2]) (t_X10_isAhead (d := d - 1) hl (by omega) e0) (by omega) rfl (Nat.le_of_ble_eq_true rfl) ?_
        refine r_if_eq (dc_X10_between 38 rfl) (tgt := 73) (by decide) (fun c0 => ?_) (fun c0 => ?_)
        · rw [if_pos c0] at h
          refine r_iconst (dc_X10_between 41 rfl) kiconst_0 ?_
          refine r_pick [0, 1, 2, 4] (lo' := [(0, .ref pL0), (1, .int xL1), (2, .int xL2), (4, .int xL4)]) rfl ?_
          exact hj10 _ h
        · rw [if_neg c0] at h
          refine r_iconst (dc_X10_between 39 rfl) kiconst_1 ?_
          refine r_goto (dc_X10_between 40 rfl) (tgt := 74) (by decide) ?_
          refine r_pick [0, 1, 2, 4] (lo' := [(0, .ref pL0), (1, .int xL1), (2, .int xL2), (4, .int xL4)]) rfl ?_
          exact hj10 _ h
theorem t_X10_between {G : Gx} {d : Nat} (hl : G.1.stackTraces = false) (hd : 3 ≤ d) {σ : Sto} {a0 : Nat} {xa1 : Int32} {xa2 : Int32} {r : (Int32 × Sto)} (h : F_X10_between σ a0 xa1 xa2 = some r) : Mi G d m_X10_between 10 a0 [.int xa1, .int xa2] σ (.inl (some (.int r.1))) r.2 := by
  rw [F_X10_between] at h
  obtain ⟨hg, h⟩ := chk_some h
  refine ⟨J.toMt (lo := [(0, .ref a0), (1, .int xa1), (2, .int xa2)]) pn_RX10 rfl hl (Nat.le_of_ble_eq_true rfl) rfl ?_, hg⟩
  refine r_aload_n (dc_X10_between 0 rfl) rfl rfl ?_
  refine r_iconst (dc_X10_between 1 rfl) kiconst_0 ?_
  obtain ⟨s1, e0, h⟩ := Option.bind_eq_some_iff.mp h
  refine r_put (dc_X10_between 2 rfl) pl_RX10_1 rfl e0 ?_
  refine r_aload_n (dc_X10_between 3 rfl) rfl rfl ?_
  refine r_iconst (dc_X10_between 4 rfl) kiconst_0 ?_
  obtain ⟨s2, e0, h⟩ := Option.bind_eq_some_iff.mp h
  refine r_put (dc_X10_between 5 rfl) pl_RX10_59 rfl e0 ?_
  refine r_aload_n (dc_X10_between 6 rfl) rfl rfl ?_
  refine r_iload_n (dc_X10_between 7 rfl) rfl rfl ?_
  obtain ⟨x3, e0, h⟩ := Option.bind_eq_some_iff.mp h
  refine r_callV (dc_X10_between 8 rfl) mv_X10_isEvent ml_RX10_156 (As := [.int xa1]) (t_X10_isEvent (d := d - 1) hl (by omega) e0) (by omega) rfl (Nat.le_of_ble_eq_true rfl) ?_
  refine r_if_eq (dc_X10_between 9 rfl) (tgt := 26) (by decide) (fun c0 => ?_) (fun c0 => ?_)
  · rw [if_pos c0] at h
    refine r_aload_n (dc_X10_between 14 rfl) rfl rfl ?_
    refine r_iconst (dc_X10_between 15 rfl) kiconst_1 ?_
    obtain ⟨x5, s4, e0, h⟩ := wb_some h
    refine r_callV (dc_X10_between 16 rfl) mv_X10_fails ml_RX10_101 (As := [.int (1 : Int32)]) (t_X10_fails (d := d - 1) hl (by omega) e0) (by omega) rfl (Nat.le_of_ble_eq_true rfl) ?_
    cases h
    exact r_ireturn (dc_X10_between 17 rfl) rfl
  · rw [if_neg c0] at h
    refine r_aload_n (dc_X10_between 10 rfl) rfl rfl ?_
    refine r_iload_n (dc_X10_between 11 rfl) rfl rfl ?_
    obtain ⟨x6, e0, h⟩ := Option.bind_eq_some_iff.mp h
    refine r_callV (dc_X10_between 12 rfl) mv_X10_isEvent ml_RX10_156 (As := [.int xa2]) (t_X10_isEvent (d := d - 1) hl (by omega) e0) (by omega) rfl (Nat.le_of_ble_eq_true rfl) ?_
    refine r_if_ne (dc_X10_between 13 rfl) (tgt := 32) (by decide) (fun c0 => ?_) (fun c0 => ?_)
    · rw [if_neg c0] at h
      refine r_iconst (dc_X10_between 18 rfl) kiconst_0 ?_
      refine r_istore_n (dc_X10_between 19 rfl) rfl (by decide) (lo' := [(3, .int (0 : Int32)), (0, .ref a0), (1, .int xa1), (2, .int xa2)]) rfl ?_
      refine r_iconst (dc_X10_between 20 rfl) kiconst_0 ?_
      refine r_istore (dc_X10_between 21 rfl) (by decide) (lo' := [(4, .int (0 : Int32)), (3, .int (0 : Int32)), (0, .ref a0), (1, .int xa1), (2, .int xa2)]) rfl ?_
      refine r_pick [2, 3, 4, 1, 0] (lo' := [(0, .ref a0), (1, .int xa1), (2, .int xa2), (3, .int (0 : Int32)), (4, .int (0 : Int32))]) rfl ?_
      refine l_X10_between_L37 hl hd (hk85 := ?_) fu _ _ h
      · intro x14 h
        refine r_iload_n (dc_X10_between 47 rfl) rfl rfl ?_
        cases h
        exact r_ireturn (dc_X10_between 48 rfl) rfl
    · rw [if_pos c0] at h
      refine r_aload_n (dc_X10_between 14 rfl) rfl rfl ?_
      refine r_iconst (dc_X10_between 15 rfl) kiconst_1 ?_
      obtain ⟨x16, s15, e0, h⟩ := wb_some h
      refine r_callV (dc_X10_between 16 rfl) mv_X10_fails ml_RX10_101 (As := [.int (1 : Int32)]) (t_X10_fails (d := d - 1) hl (by omega) e0) (by omega) rfl (Nat.le_of_ble_eq_true rfl) ?_
      cases h
      exact r_ireturn (dc_X10_between 17 rfl) rfl
theorem l_X10_isFront_L14 {G : Gx} {d : Nat} (hl : G.1.stackTraces = false) (hd : 3 ≤ d) {sL : Sto} {pL0 : Nat} {xL1 : Int32} {xL2 : Int32} {r : Int32} {k51 : Option Int32}
    (hk51 : k51  = some r → J G d m_X10_isFront 51 [] [] sL (.inl (some (.int r))) sL)
  : ∀ (f : Nat) (xL3 : Int32), F_X10_isFront_L14 sL pL0 xL1 xL2 f xL3 k51 = some r → J G d m_X10_isFront 14 [(0, .ref pL0), (1, .int xL1), (2, .int xL2), (3, .int xL3)] [] sL (.inl (some (.int r))) sL := by
  intro f
  induction f with
  | zero => intro xL3 h; rw [F_X10_isFront_L14] at h; cases h
  | succ f ih =>
    intro xL3 h
    rw [F_X10_isFront_L14] at h
    refine r_iload_n (dc_X10_isFront 10 rfl) rfl rfl ?_
    refine r_aload_n (dc_X10_isFront 11 rfl) rfl rfl ?_
    obtain ⟨p2, e0, h⟩ := Option.bind_eq_some_iff.mp h
    refine r_getR (dc_X10_isFront 12 rfl) fl_RX10_14 e0 ?_
    refine r_iconst (dc_X10_isFront 13 rfl) kiconst_2 ?_
    obtain ⟨x3, e0, h⟩ := Option.bind_eq_some_iff.mp h
    refine r_iald (dc_X10_isFront 14 rfl) e0 ?_
    refine r_icmp_ge (dc_X10_isFront 15 rfl) (tgt := 51) (by decide) (fun c0 => ?_) (fun c0 => ?_)
    · rw [if_pos c0] at h
      refine r_pick [] (lo' := []) rfl ?_
      exact hk51  h
    · rw [if_neg c0] at h
      refine r_aload_n (dc_X10_isFront 16 rfl) rfl rfl ?_
      refine r_iload_n (dc_X10_isFront 17 rfl) rfl rfl ?_
      refine r_iload_n (dc_X10_isFront 18 rfl) rfl rfl ?_
      refine r_iconst (dc_X10_isFront 19 rfl) kiconst_1 ?_
      obtain ⟨x4, e0, h⟩ := Option.bind_eq_some_iff.mp h
      refine r_callV (dc_X10_isFront 20 rfl) mv_X10_doesHave ml_RX10_226 (As := [.int xL1, .int xL3, .int (1 : Int32)]) (t_X10_doesHave (d := d - 1) hl (by omega) e0) (by omega) rfl (Nat.le_of_ble_eq_true rfl) ?_
      refine r_if_eq (dc_X10_isFront 21 rfl) (tgt := 45) (by decide) (fun c0 => ?_) (fun c0 => ?_)
      · rw [if_pos c0] at h
        refine r_iinc (dc_X10_isFront 29 rfl) rfl (kinc_1 _) (by decide) (lo' := [(3, .int (xL3 + (1 : Int32))), (0, .ref pL0), (1, .int xL1), (2, .int xL2)]) rfl ?_
        refine r_goto (dc_X10_isFront 30 rfl) (tgt := 14) (by decide) ?_
        refine r_pick [1, 2, 3, 0] (lo' := [(0, .ref pL0), (1, .int xL1), (2, .int xL2), (3, .int (xL3 + (1 : Int32)))]) rfl ?_
        exact ih _ h
      · rw [if_neg c0] at h
        refine r_aload_n (dc_X10_isFront 22 rfl) rfl rfl ?_
        refine r_iload_n (dc_X10_isFront 23 rfl) rfl rfl ?_
        refine r_iload_n (dc_X10_isFront 24 rfl) rfl rfl ?_
        obtain ⟨x5, e0, h⟩ := Option.bind_eq_some_iff.mp h
        refine r_callV (dc_X10_isFront 25 rfl) mv_X10_isAhead ml_RX10_307 (As := [.int xL2, .int xL3]) (t_X10_isAhead (d := d - 1) hl (by omega) e0) (by omega) rfl (Nat.le_of_ble_eq_true rfl) ?_
        refine r_if_eq (dc_X10_isFront 26 rfl) (tgt := 45) (by decide) (fun c0 => ?_) (fun c0 => ?_)
        · rw [if_pos c0] at h
          refine r_iinc (dc_X10_isFront 29 rfl) rfl (kinc_1 _) (by decide) (lo' := [(3, .int (xL3 + (1 : Int32))), (0, .ref pL0), (1, .int xL1), (2, .int xL2)]) rfl ?_
          refine r_goto (dc_X10_isFront 30 rfl) (tgt := 14) (by decide) ?_
          refine r_pick [1, 2, 3, 0] (lo' := [(0, .ref pL0), (1, .int xL1), (2, .int xL2), (3, .int (xL3 + (1 : Int32)))]) rfl ?_
          exact ih _ h
        · rw [if_neg c0] at h
          refine r_iconst (dc_X10_isFront 27 rfl) kiconst_0 ?_
          cases h
          exact r_zreturn (dc_X10_isFront 28 rfl) rfl (Or.inl rfl)
theorem t_X10_isFront {G : Gx} {d : Nat} (hl : G.1.stackTraces = false) (hd : 3 ≤ d) {σ : Sto} {a0 : Nat} {xa1 : Int32} {xa2 : Int32} {r : Int32} (h : F_X10_isFront σ a0 xa1 xa2 = some r) : Mi G d m_X10_isFront 10 a0 [.int xa1, .int xa2] σ (.inl (some (.int r))) σ := by
  rw [F_X10_isFront] at h
  obtain ⟨hg, h⟩ := chk_some h
  refine ⟨J.toMt (lo := [(0, .ref a0), (1, .int xa1), (2, .int xa2)]) pn_RX10 rfl hl (Nat.le_of_ble_eq_true rfl) rfl ?_, hg⟩
  refine r_aload_n (dc_X10_isFront 0 rfl) rfl rfl ?_
  refine r_iload_n (dc_X10_isFront 1 rfl) rfl rfl ?_
  refine r_iload_n (dc_X10_isFront 2 rfl) rfl rfl ?_
  refine r_iconst (dc_X10_isFront 3 rfl) kiconst_0 ?_
  obtain ⟨x1, e0, h⟩ := Option.bind_eq_some_iff.mp h
  refine r_callV (dc_X10_isFront 4 rfl) mv_X10_doesHave ml_RX10_226 (As := [.int xa1, .int xa2, .int (0 : Int32)]) (t_X10_doesHave (d := d - 1) hl (by omega) e0) (by omega) rfl (Nat.le_of_ble_eq_true rfl) ?_
  refine r_if_eq (dc_X10_isFront 5 rfl) (tgt := 12) (by decide) (fun c0 => ?_) (fun c0 => ?_)
  · rw [if_pos c0] at h
    refine r_iconst (dc_X10_isFront 8 rfl) kiconst_0 ?_
    refine r_istore_n (dc_X10_isFront 9 rfl) rfl (by decide) (lo' := [(3, .int (0 : Int32)), (0, .ref a0), (1, .int xa1), (2, .int xa2)]) rfl ?_
    refine r_pick [1, 2, 3, 0] (lo' := [(0, .ref a0), (1, .int xa1), (2, .int xa2), (3, .int (0 : Int32))]) rfl ?_
    refine l_X10_isFront_L14 hl hd (hk51 := ?_) fu _ h
    · intro h
      refine r_iconst (dc_X10_isFront 31 rfl) kiconst_1 ?_
      cases h
      exact r_zreturn (dc_X10_isFront 32 rfl) rfl (Or.inr rfl)
  · rw [if_neg c0] at h
    refine r_iconst (dc_X10_isFront 6 rfl) kiconst_0 ?_
    cases h
    exact r_zreturn (dc_X10_isFront 7 rfl) rfl (Or.inl rfl)
theorem l_X10_front_L36 {G : Gx} {d : Nat} (hl : G.1.stackTraces = false) (hd : 4 ≤ d) {sL : Sto} {pL0 : Nat} {xL1 : Int32} {xL2 : Int32} {r : (Int32 × Sto)} {k77 : Int32 → Option (Int32 × Sto)}
    (hk77 : ∀ (xL3 : Int32), k77 xL3 = some r → J G d m_X10_front 77 [(2, .int xL2), (3, .int xL3)] [] sL (.inl (some (.int r.1))) r.2)
  : ∀ (f : Nat) (xL3 : Int32) (xL4 : Int32), F_X10_front_L36 sL pL0 xL1 xL2 f xL3 xL4 k77 = some r → J G d m_X10_front 36 [(0, .ref pL0), (1, .int xL1), (2, .int xL2), (3, .int xL3), (4, .int xL4)] [] sL (.inl (some (.int r.1))) r.2 := by
  intro f
  induction f with
  | zero => intro xL3 xL4 h; rw [F_X10_front_L36] at h; cases h
  | succ f ih =>
    intro xL3 xL4 h
    rw [F_X10_front_L36] at h
    refine r_iload (dc_X10_front 23 rfl) rfl ?_
    refine r_aload_n (dc_X10_front 24 rfl) rfl rfl ?_
    obtain ⟨p4, e0, h⟩ := Option.bind_eq_some_iff.mp h
    refine r_getR (dc_X10_front 25 rfl) fl_RX10_14 e0 ?_
    refine r_iconst (dc_X10_front 26 rfl) kiconst_2 ?_
    obtain ⟨x5, e0, h⟩ := Option.bind_eq_some_iff.mp h
    refine r_iald (dc_X10_front 27 rfl) e0 ?_
    refine r_icmp_ge (dc_X10_front 28 rfl) (tgt := 77) (by decide) (fun c0 => ?_) (fun c0 => ?_)
    · rw [if_pos c0] at h
      refine r_pick [2, 3] (lo' := [(2, .int xL2), (3, .int xL3)]) rfl ?_
      exact hk77 _ h
    · rw [if_neg c0] at h
      refine r_aload_n (dc_X10_front 29 rfl) rfl rfl ?_
      refine r_iload_n (dc_X10_front 30 rfl) rfl rfl ?_
      refine r_iload (dc_X10_front 31 rfl) rfl ?_
      obtain ⟨x6, e0, h⟩ := Option.bind_eq_some_iff.mp h
      refine r_callV (dc_X10_front 32 rfl) mv_X10_isFront ml_RX10_330 (As := [.int xL1, .int xL4]) (t_X10_isFront (d := d - 1) hl (by omega) e0) (by omega) rfl (Nat.le_of_ble_eq_true rfl) ?_
      refine r_if_ne (dc_X10_front 33 rfl) (tgt := 60) (by decide) (fun c0 => ?_) (fun c0 => ?_)
      · rw [if_neg c0] at h
        refine r_iload_n (dc_X10_front 35 rfl) rfl rfl ?_
        refine r_iload_n (dc_X10_front 36 rfl) rfl rfl ?_
        refine r_icmp_ne (dc_X10_front 37 rfl) (tgt := 68) (by decide) (fun c0 => ?_) (fun c0 => ?_)
        · rw [if_neg c0] at h
          refine r_iinc (dc_X10_front 40 rfl) rfl (kinc_1 _) (by decide) (lo' := [(3, .int (xL3 + (1 : Int32))), (0, .ref pL0), (1, .int xL1), (2, .int xL2), (4, .int xL4)]) rfl ?_
          refine r_iinc (dc_X10_front 41 rfl) rfl (kinc_1 _) (by decide) (lo' := [(4, .int (xL4 + (1 : Int32))), (3, .int (xL3 + (1 : Int32))), (0, .ref pL0), (1, .int xL1), (2, .int xL2)]) rfl ?_
          refine r_goto (dc_X10_front 42 rfl) (tgt := 36) (by decide) ?_
          refine r_pick [2, 3, 4, 1, 0] (lo' := [(0, .ref pL0), (1, .int xL1), (2, .int xL2), (3, .int (xL3 + (1 : Int32))), (4, .int (xL4 + (1 : Int32)))]) rfl ?_
          exact ih _ _ h
        · rw [if_pos c0] at h
          refine r_iload (dc_X10_front 38 rfl) rfl ?_
          cases h
          exact r_ireturn (dc_X10_front 39 rfl) rfl
      · rw [if_pos c0] at h
        refine r_goto (dc_X10_front 34 rfl) (tgt := 71) (by decide) ?_
        refine r_iinc (dc_X10_front 41 rfl) rfl (kinc_1 _) (by decide) (lo' := [(4, .int (xL4 + (1 : Int32))), (0, .ref pL0), (1, .int xL1), (2, .int xL2), (3, .int xL3)]) rfl ?_
        refine r_goto (dc_X10_front 42 rfl) (tgt := 36) (by decide) ?_
        refine r_pick [1, 2, 3, 4, 0] (lo' := [(0, .ref pL0), (1, .int xL1), (2, .int xL2), (3, .int xL3), (4, .int (xL4 + (1 : Int32)))]) rfl ?_
        exact ih _ _ h
theorem t_X10_front {G : Gx} {d : Nat} (hl : G.1.stackTraces = false) (hd : 4 ≤ d) {σ : Sto} {a0 : Nat} {xa1 : Int32} {xa2 : Int32} {r : (Int32 × Sto)} (h : F_X10_front σ a0 xa1 xa2 = some r) : Mi G d m_X10_front 10 a0 [.int xa1, .int xa2] σ (.inl (some (.int r.1))) r.2 := by
  rw [F_X10_front] at h
  obtain ⟨hg, h⟩ := chk_some h
  refine ⟨J.toMt (lo := [(0, .ref a0), (1, .int xa1), (2, .int xa2)]) pn_RX10 rfl hl (Nat.le_of_ble_eq_true rfl) rfl ?_, hg⟩
  refine r_aload_n (dc_X10_front 0 rfl) rfl rfl ?_
  refine r_iconst (dc_X10_front 1 rfl) kiconst_0 ?_
  obtain ⟨s1, e0, h⟩ := Option.bind_eq_some_iff.mp h
  refine r_put (dc_X10_front 2 rfl) pl_RX10_1 rfl e0 ?_
  refine r_aload_n (dc_X10_front 3 rfl) rfl rfl ?_
  refine r_iconst (dc_X10_front 4 rfl) kiconst_0 ?_
  obtain ⟨s2, e0, h⟩ := Option.bind_eq_some_iff.mp h
  refine r_put (dc_X10_front 5 rfl) pl_RX10_59 rfl e0 ?_
  refine r_aload_n (dc_X10_front 6 rfl) rfl rfl ?_
  refine r_iload_n (dc_X10_front 7 rfl) rfl rfl ?_
  obtain ⟨x3, e0, h⟩ := Option.bind_eq_some_iff.mp h
  refine r_callV (dc_X10_front 8 rfl) mv_X10_isSite ml_RX10_93 (As := [.int xa1]) (t_X10_isSite (d := d - 1) hl (by omega) e0) (by omega) rfl (Nat.le_of_ble_eq_true rfl) ?_
  refine r_if_ne (dc_X10_front 9 rfl) (tgt := 24) (by decide) (fun c0 => ?_) (fun c0 => ?_)
  · rw [if_neg c0] at h
    refine r_iload_n (dc_X10_front 14 rfl) rfl rfl ?_
    refine r_iconst (dc_X10_front 15 rfl) kiconst_m1 ?_
    refine r_icmp_ge (dc_X10_front 16 rfl) (tgt := 31) (by decide) (fun c0 => ?_) (fun c0 => ?_)
    · rw [if_pos c0] at h
      refine r_iconst (dc_X10_front 19 rfl) kiconst_0 ?_
      refine r_istore_n (dc_X10_front 20 rfl) rfl (by decide) (lo' := [(3, .int (0 : Int32)), (0, .ref a0), (1, .int xa1), (2, .int xa2)]) rfl ?_
      refine r_iconst (dc_X10_front 21 rfl) kiconst_0 ?_
      refine r_istore (dc_X10_front 22 rfl) (by decide) (lo' := [(4, .int (0 : Int32)), (3, .int (0 : Int32)), (0, .ref a0), (1, .int xa1), (2, .int xa2)]) rfl ?_
      refine r_pick [2, 3, 4, 1, 0] (lo' := [(0, .ref a0), (1, .int xa1), (2, .int xa2), (3, .int (0 : Int32)), (4, .int (0 : Int32))]) rfl ?_
      refine l_X10_front_L36 hl hd (hk77 := ?_) fu _ _ h
      · intro x7 h
        refine r_iload_n (dc_X10_front 43 rfl) rfl rfl ?_
        refine r_iconst (dc_X10_front 44 rfl) kiconst_m1 ?_
        refine r_icmp_ne (dc_X10_front 45 rfl) (tgt := 86) (by decide) (fun c0 => ?_) (fun c0 => ?_)
        · rw [if_neg c0] at h
          refine r_iconst (dc_X10_front 48 rfl) kiconst_m1 ?_
          cases h
          exact r_ireturn (dc_X10_front 49 rfl) rfl
        · rw [if_pos c0] at h
          refine r_iload_n (dc_X10_front 46 rfl) rfl rfl ?_
          refine r_goto (dc_X10_front 47 rfl) (tgt := 87) (by decide) ?_
          cases h
          exact r_ireturn (dc_X10_front 49 rfl) rfl
    · rw [if_neg c0] at h
      refine r_iconst (dc_X10_front 17 rfl) kiconst_m1 ?_
      cases h
      exact r_ireturn (dc_X10_front 18 rfl) rfl
  · rw [if_pos c0] at h
    refine r_aload_n (dc_X10_front 10 rfl) rfl rfl ?_
    refine r_iconst (dc_X10_front 11 rfl) kiconst_1 ?_
    obtain ⟨x9, s8, e0, h⟩ := wb_some h
    refine r_callV (dc_X10_front 12 rfl) mv_X10_fails ml_RX10_101 (As := [.int (1 : Int32)]) (t_X10_fails (d := d - 1) hl (by omega) e0) (by omega) rfl (Nat.le_of_ble_eq_true rfl) ?_
    cases h
    exact r_ireturn (dc_X10_front 13 rfl) rfl
theorem l_X10_knownTo_L5 {G : Gx} {d : Nat} (hl : G.1.stackTraces = false) (hd : 3 ≤ d) {sL : Sto} {pL0 : Nat} {xL1 : Int32} {xL2 : Int32} {r : Int32} {k36 : Int32 → Option Int32}
    (hk36 : ∀ (xL3 : Int32), k36 xL3 = some r → J G d m_X10_knownTo 36 [(3, .int xL3)] [] sL (.inl (some (.int r))) sL)
  : ∀ (f : Nat) (xL3 : Int32) (xL4 : Int32), F_X10_knownTo_L5 sL pL0 xL1 xL2 f xL3 xL4 k36 = some r → J G d m_X10_knownTo 5 [(0, .ref pL0), (1, .int xL1), (2, .int xL2), (3, .int xL3), (4, .int xL4)] [] sL (.inl (some (.int r))) sL := by
  intro f
  induction f with
  | zero => intro xL3 xL4 h; rw [F_X10_knownTo_L5] at h; cases h
  | succ f ih =>
    intro xL3 xL4 h
    rw [F_X10_knownTo_L5] at h
    refine r_iload (dc_X10_knownTo 4 rfl) rfl ?_
    refine r_aload_n (dc_X10_knownTo 5 rfl) rfl rfl ?_
    obtain ⟨p1, e0, h⟩ := Option.bind_eq_some_iff.mp h
    refine r_getR (dc_X10_knownTo 6 rfl) fl_RX10_14 e0 ?_
    refine r_iconst (dc_X10_knownTo 7 rfl) kiconst_0 ?_
    obtain ⟨x2, e0, h⟩ := Option.bind_eq_some_iff.mp h
    refine r_iald (dc_X10_knownTo 8 rfl) e0 ?_
    refine r_icmp_ge (dc_X10_knownTo 9 rfl) (tgt := 36) (by decide) (fun c0 => ?_) (fun c0 => ?_)
    · rw [if_pos c0] at h
      refine r_pick [3] (lo' := [(3, .int xL3)]) rfl ?_
      exact hk36 _ h
    · rw [if_neg c0] at h
      refine r_iload_n (dc_X10_knownTo 10 rfl) rfl rfl ?_
      refine r_aload_n (dc_X10_knownTo 11 rfl) rfl rfl ?_
      refine r_iload_n (dc_X10_knownTo 12 rfl) rfl rfl ?_
      refine r_iload (dc_X10_knownTo 13 rfl) rfl ?_
      refine r_iload_n (dc_X10_knownTo 14 rfl) rfl rfl ?_
      obtain ⟨x3, e0, h⟩ := Option.bind_eq_some_iff.mp h
      refine r_callV (dc_X10_knownTo 15 rfl) mv_X10_isKnown ml_RX10_162 (As := [.int xL1, .int xL4, .int xL2]) (t_X10_isKnown (d := d - 1) hl (by omega) e0) (by omega) rfl (Nat.le_of_ble_eq_true rfl) ?_
      obtain ⟨x4, e0, h⟩ := Option.bind_eq_some_iff.mp h
      refine r_callS (dc_X10_knownTo 16 rfl) ms_X10_flag ml_RX10_74 (As := [.int x3]) (t_X10_flag (d := d - 1) hl (by omega) e0) (by omega) rfl (Nat.le_of_ble_eq_true rfl) ?_
      refine r_iadd (dc_X10_knownTo 17 rfl) ?_
      refine r_istore_n (dc_X10_knownTo 18 rfl) rfl (by decide) (lo' := [(3, .int (xL3 + x4)), (0, .ref pL0), (1, .int xL1), (2, .int xL2), (4, .int xL4)]) rfl ?_
      refine r_iinc (dc_X10_knownTo 19 rfl) rfl (kinc_1 _) (by decide) (lo' := [(4, .int (xL4 + (1 : Int32))), (3, .int (xL3 + x4)), (0, .ref pL0), (1, .int xL1), (2, .int xL2)]) rfl ?_
      refine r_goto (dc_X10_knownTo 20 rfl) (tgt := 5) (by decide) ?_
      refine r_pick [2, 3, 4, 1, 0] (lo' := [(0, .ref pL0), (1, .int xL1), (2, .int xL2), (3, .int (xL3 + x4)), (4, .int (xL4 + (1 : Int32)))]) rfl ?_
      exact ih _ _ h
theorem t_X10_knownTo {G : Gx} {d : Nat} (hl : G.1.stackTraces = false) (hd : 3 ≤ d) {σ : Sto} {a0 : Nat} {xa1 : Int32} {xa2 : Int32} {r : Int32} (h : F_X10_knownTo σ a0 xa1 xa2 = some r) : Mi G d m_X10_knownTo 10 a0 [.int xa1, .int xa2] σ (.inl (some (.int r))) σ := by
  rw [F_X10_knownTo] at h
  obtain ⟨hg, h⟩ := chk_some h
  refine ⟨J.toMt (lo := [(0, .ref a0), (1, .int xa1), (2, .int xa2)]) pn_RX10 rfl hl (Nat.le_of_ble_eq_true rfl) rfl ?_, hg⟩
  refine r_iconst (dc_X10_knownTo 0 rfl) kiconst_0 ?_
  refine r_istore_n (dc_X10_knownTo 1 rfl) rfl (by decide) (lo' := [(3, .int (0 : Int32)), (0, .ref a0), (1, .int xa1), (2, .int xa2)]) rfl ?_
  refine r_iconst (dc_X10_knownTo 2 rfl) kiconst_0 ?_
  refine r_istore (dc_X10_knownTo 3 rfl) (by decide) (lo' := [(4, .int (0 : Int32)), (3, .int (0 : Int32)), (0, .ref a0), (1, .int xa1), (2, .int xa2)]) rfl ?_
  refine r_pick [2, 3, 4, 1, 0] (lo' := [(0, .ref a0), (1, .int xa1), (2, .int xa2), (3, .int (0 : Int32)), (4, .int (0 : Int32))]) rfl ?_
  refine l_X10_knownTo_L5 hl hd (hk36 := ?_) fu _ _ h
  · intro x5 h
    refine r_iload_n (dc_X10_knownTo 21 rfl) rfl rfl ?_
    cases h
    exact r_ireturn (dc_X10_knownTo 22 rfl) rfl
theorem l_X10_sure_L51 {G : Gx} {d : Nat} (hl : G.1.stackTraces = false) (hd : 4 ≤ d) {sL : Sto} {pL0 : Nat} {xL1 : Int32} {xL2 : Int32} {r : (Int32 × Sto)} {k101 : Int32 → Option (Int32 × Sto)}
    (hk101 : ∀ (xL3 : Int32), k101 xL3 = some r → J G d m_X10_sure 101 [(3, .int xL3)] [] sL (.inl (some (.int r.1))) r.2)
  : ∀ (f : Nat) (xL3 : Int32) (xL4 : Int32), F_X10_sure_L51 sL pL0 xL1 xL2 f xL3 xL4 k101 = some r → J G d m_X10_sure 51 [(0, .ref pL0), (1, .int xL1), (2, .int xL2), (3, .int xL3), (4, .int xL4)] [] sL (.inl (some (.int r.1))) r.2 := by
  intro f
  induction f with
  | zero => intro xL3 xL4 h; rw [F_X10_sure_L51] at h; cases h
  | succ f ih =>
    intro xL3 xL4 h
    rw [F_X10_sure_L51] at h
    refine r_iload (dc_X10_sure 32 rfl) rfl ?_
    refine r_aload_n (dc_X10_sure 33 rfl) rfl rfl ?_
    obtain ⟨p7, e0, h⟩ := Option.bind_eq_some_iff.mp h
    refine r_getR (dc_X10_sure 34 rfl) fl_RX10_14 e0 ?_
    refine r_iconst (dc_X10_sure 35 rfl) kiconst_2 ?_
    obtain ⟨x8, e0, h⟩ := Option.bind_eq_some_iff.mp h
    refine r_iald (dc_X10_sure 36 rfl) e0 ?_
    refine r_icmp_ge (dc_X10_sure 37 rfl) (tgt := 101) (by decide) (fun c0 => ?_) (fun c0 => ?_)
    · rw [if_pos c0] at h
      refine r_pick [3] (lo' := [(3, .int xL3)]) rfl ?_
      exact hk101 _ h
    · rw [if_neg c0] at h
      refine r_iload_n (dc_X10_sure 38 rfl) rfl rfl ?_
      refine r_aload_n (dc_X10_sure 39 rfl) rfl rfl ?_
      refine r_iload_n (dc_X10_sure 40 rfl) rfl rfl ?_
      refine r_iload (dc_X10_sure 41 rfl) rfl ?_
      refine r_iconst (dc_X10_sure 42 rfl) kiconst_1 ?_
      obtain ⟨x9, e0, h⟩ := Option.bind_eq_some_iff.mp h
      refine r_callV (dc_X10_sure 43 rfl) mv_X10_doesHave ml_RX10_226 (As := [.int xL1, .int xL4, .int (1 : Int32)]) (t_X10_doesHave (d := d - 1) hl (by omega) e0) (by omega) rfl (Nat.le_of_ble_eq_true rfl) ?_
      refine jn_elim h (Q := fun (j : Int32 → Option (Int32 × Sto)) => ∀ (x11 : Int32), j x11 = some r → J G d m_X10_sure 90 [(0, .ref pL0), (1, .int xL1), (2, .int xL2), (4, .int xL4)] [.int x11, .int xL3] sL (.inl (some (.int r.1))) r.2) ?_ (fun j10 hj10 h => ?_)
      · intro x11 h
        obtain ⟨x12, e0, h⟩ := Option.bind_eq_some_iff.mp h
        refine r_callS (dc_X10_sure 54 rfl) ms_X10_flag ml_RX10_74 (As := [.int x11]) (t_X10_flag (d := d - 1) hl (by omega) e0) (by omega) rfl (Nat.le_of_ble_eq_true rfl) ?_
        refine r_iadd (dc_X10_sure 55 rfl) ?_
        refine r_istore_n (dc_X10_sure 56 rfl) rfl (by decide) (lo' := [(3, .int (xL3 + x12)), (0, .ref pL0), (1, .int xL1), (2, .int xL2), (4, .int xL4)]) rfl ?_
        refine r_iinc (dc_X10_sure 57 rfl) rfl (kinc_1 _) (by decide) (lo' := [(4, .int (xL4 + (1 : Int32))), (3, .int (xL3 + x12)), (0, .ref pL0), (1, .int xL1), (2, .int xL2)]) rfl ?_
        refine r_goto (dc_X10_sure 58 rfl) (tgt := 51) (by decide) ?_
        refine r_pick [2, 3, 4, 1, 0] (lo' := [(0, .ref pL0), (1, .int xL1), (2, .int xL2), (3, .int (xL3 + x12)), (4, .int (xL4 + (1 : Int32)))]) rfl ?_
        exact ih _ _ h
      refine r_if_eq (dc_X10_sure 44 rfl) (tgt := 89) (by decide) (fun c0 => ?_) (fun c0 => ?_)
      · rw [if_pos c0] at h
        refine r_iconst (dc_X10_sure 53 rfl) kiconst_0 ?_
        refine r_pick [0, 1, 2, 4] (lo' := [(0, .ref pL0), (1, .int xL1), (2, .int xL2), (4, .int xL4)]) rfl ?_
        exact hj10 _ h
      · rw [if_neg c0] at h
        refine r_aload_n (dc_X10_sure 45 rfl) rfl rfl ?_
        refine r_iload_n (dc_X10_sure 46 rfl) rfl rfl ?_
        refine r_iload (dc_X10_sure 47 rfl) rfl ?_
        obtain ⟨x13, e0, h⟩ := Option.bind_eq_some_iff.mp h
        refine r_callV (dc_X10_sure 48 rfl) mv_X10_knownTo ml_RX10_333 (As := [.int xL1, .int xL4]) (t_X10_knownTo (d := d - 1) hl (by omega) e0) (by omega) rfl (Nat.le_of_ble_eq_true rfl) ?_
        refine r_iload_n (dc_X10_sure 49 rfl) rfl rfl ?_
        refine r_icmp_lt (dc_X10_sure 50 rfl) (tgt := 89) (by decide) (fun c0 => ?_) (fun c0 => ?_)
        · rw [if_pos c0] at h
          refine r_iconst (dc_X10_sure 53 rfl) kiconst_0 ?_
          refine r_pick [0, 1, 2, 4] (lo' := [(0, .ref pL0), (1, .int xL1), (2, .int xL2), (4, .int xL4)]) rfl ?_
          exact hj10 _ h
        · rw [if_neg c0] at h
          refine r_iconst (dc_X10_sure 51 rfl) kiconst_1 ?_
          refine r_goto (dc_X10_sure 52 rfl) (tgt := 90) (by decide) ?_
          refine r_pick [0, 1, 2, 4] (lo' := [(0, .ref pL0), (1, .int xL1), (2, .int xL2), (4, .int xL4)]) rfl ?_
          exact hj10 _ h
