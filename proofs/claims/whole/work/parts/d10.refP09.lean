theorem t_X10_sure {G : Gx} {d : Nat} (hl : G.1.stackTraces = false) (hd : 4 ≤ d) {σ : Sto} {a0 : Nat} {xa1 : Int32} {xa2 : Int32} {r : (Int32 × Sto)} (h : F_X10_sure σ a0 xa1 xa2 = some r) : Mi G d m_X10_sure 10 a0 [.int xa1, .int xa2] σ (.inl (some (.int r.1))) r.2 := by
  rw [F_X10_sure] at h
  obtain ⟨hg, h⟩ := chk_some h
  refine ⟨J.toMt (lo := [(0, .ref a0), (1, .int xa1), (2, .int xa2)]) pn_RX10 rfl hl (Nat.le_of_ble_eq_true rfl) rfl ?_, hg⟩
  refine r_aload_n (dc_X10_sure 0 rfl) rfl rfl ?_
  refine r_iconst (dc_X10_sure 1 rfl) kiconst_0 ?_
  obtain ⟨s1, e0, h⟩ := Option.bind_eq_some_iff.mp h
  refine r_put (dc_X10_sure 2 rfl) pl_RX10_1 rfl e0 ?_
  refine r_aload_n (dc_X10_sure 3 rfl) rfl rfl ?_
  refine r_iconst (dc_X10_sure 4 rfl) kiconst_0 ?_
  obtain ⟨s2, e0, h⟩ := Option.bind_eq_some_iff.mp h
  refine r_put (dc_X10_sure 5 rfl) pl_RX10_59 rfl e0 ?_
  refine r_aload_n (dc_X10_sure 6 rfl) rfl rfl ?_
  refine r_iload_n (dc_X10_sure 7 rfl) rfl rfl ?_
  obtain ⟨x3, e0, h⟩ := Option.bind_eq_some_iff.mp h
  refine r_callV (dc_X10_sure 8 rfl) mv_X10_isSite ml_RX10_93 (As := [.int xa1]) (t_X10_isSite (d := d - 1) hl (by omega) e0) (by omega) rfl (Nat.le_of_ble_eq_true rfl) ?_
  refine r_if_ne (dc_X10_sure 9 rfl) (tgt := 24) (by decide) (fun c0 => ?_) (fun c0 => ?_)
  · rw [if_neg c0] at h
    refine r_iload_n (dc_X10_sure 14 rfl) rfl rfl ?_
    refine r_i2l (dc_X10_sure 15 rfl) ?_
    refine r_lconst (dc_X10_sure 16 rfl) klconst_0 ?_
    refine r_aload_n (dc_X10_sure 17 rfl) rfl rfl ?_
    obtain ⟨p4, e0, h⟩ := Option.bind_eq_some_iff.mp h
    refine r_getR (dc_X10_sure 18 rfl) fl_RX10_14 e0 ?_
    refine r_iconst (dc_X10_sure 19 rfl) kiconst_0 ?_
    obtain ⟨x5, e0, h⟩ := Option.bind_eq_some_iff.mp h
    refine r_iald (dc_X10_sure 20 rfl) e0 ?_
    refine r_i2l (dc_X10_sure 21 rfl) ?_
    obtain ⟨x6, e0, h⟩ := Option.bind_eq_some_iff.mp h
    refine r_callS (dc_X10_sure 22 rfl) ms_X10_isIn ml_RX10_89 (As := [.long xa2.toInt64, .long (0 : Int64), .long x5.toInt64]) (t_X10_isIn (d := d - 1) hl (by omega) e0) (by omega) rfl (Nat.le_of_ble_eq_true rfl) ?_
    refine r_if_ne (dc_X10_sure 23 rfl) (tgt := 46) (by decide) (fun c0 => ?_) (fun c0 => ?_)
    · rw [if_neg c0] at h
      refine r_iconst (dc_X10_sure 28 rfl) kiconst_0 ?_
      refine r_istore_n (dc_X10_sure 29 rfl) rfl (by decide) (lo' := [(3, .int (0 : Int32)), (0, .ref a0), (1, .int xa1), (2, .int xa2)]) rfl ?_
      refine r_iconst (dc_X10_sure 30 rfl) kiconst_0 ?_
      refine r_istore (dc_X10_sure 31 rfl) (by decide) (lo' := [(4, .int (0 : Int32)), (3, .int (0 : Int32)), (0, .ref a0), (1, .int xa1), (2, .int xa2)]) rfl ?_
      refine r_pick [2, 3, 4, 1, 0] (lo' := [(0, .ref a0), (1, .int xa1), (2, .int xa2), (3, .int (0 : Int32)), (4, .int (0 : Int32))]) rfl ?_
      refine l_X10_sure_L51 hl hd (hk101 := ?_) fu _ _ h
      · intro x14 h
        refine r_iload_n (dc_X10_sure 59 rfl) rfl rfl ?_
        cases h
        exact r_ireturn (dc_X10_sure 60 rfl) rfl
    · rw [if_pos c0] at h
      refine r_aload_n (dc_X10_sure 24 rfl) rfl rfl ?_
      refine r_iconst (dc_X10_sure 25 rfl) kiconst_2 ?_
      obtain ⟨x16, s15, e0, h⟩ := wb_some h
      refine r_callV (dc_X10_sure 26 rfl) mv_X10_fails ml_RX10_101 (As := [.int (2 : Int32)]) (t_X10_fails (d := d - 1) hl (by omega) e0) (by omega) rfl (Nat.le_of_ble_eq_true rfl) ?_
      cases h
      exact r_ireturn (dc_X10_sure 27 rfl) rfl
  · rw [if_pos c0] at h
    refine r_aload_n (dc_X10_sure 10 rfl) rfl rfl ?_
    refine r_iconst (dc_X10_sure 11 rfl) kiconst_1 ?_
    obtain ⟨x18, s17, e0, h⟩ := wb_some h
    refine r_callV (dc_X10_sure 12 rfl) mv_X10_fails ml_RX10_101 (As := [.int (1 : Int32)]) (t_X10_fails (d := d - 1) hl (by omega) e0) (by omega) rfl (Nat.le_of_ble_eq_true rfl) ?_
    cases h
    exact r_ireturn (dc_X10_sure 13 rfl) rfl
theorem l_X10_partOf_L33 {G : Gx} {d : Nat} (hl : G.1.stackTraces = false) (hd : 3 ≤ d) {sL : Sto} {pL0 : Nat} {xL3 : Int32} {xL4 : Int32} {r : Int32} {k85 : Int32 → Option Int32}
    (hk85 : ∀ (xL2 : Int32), k85 xL2 = some r → J G d m_X10_partOf 85 [(0, .ref pL0), (2, .int xL2), (3, .int xL3), (4, .int xL4)] [] sL (.inl (some (.int r))) sL)
  : ∀ (f : Nat) (xL2 : Int32) (xL5 : Int32), F_X10_partOf_L33 sL pL0 xL4 f xL2 xL5 k85 = some r → J G d m_X10_partOf 33 [(0, .ref pL0), (2, .int xL2), (3, .int xL3), (4, .int xL4), (5, .int xL5)] [] sL (.inl (some (.int r))) sL := by
  intro f
  induction f with
  | zero => intro xL2 xL5 h; rw [F_X10_partOf_L33] at h; cases h
  | succ f ih =>
    intro xL2 xL5 h
    rw [F_X10_partOf_L33] at h
    refine r_iload (dc_X10_partOf 22 rfl) rfl ?_
    refine r_aload_n (dc_X10_partOf 23 rfl) rfl rfl ?_
    obtain ⟨p5, e0, h⟩ := Option.bind_eq_some_iff.mp h
    refine r_getR (dc_X10_partOf 24 rfl) fl_RX10_14 e0 ?_
    refine r_iconst (dc_X10_partOf 25 rfl) kiconst_0 ?_
    obtain ⟨x6, e0, h⟩ := Option.bind_eq_some_iff.mp h
    refine r_iald (dc_X10_partOf 26 rfl) e0 ?_
    refine r_icmp_ge (dc_X10_partOf 27 rfl) (tgt := 85) (by decide) (fun c0 => ?_) (fun c0 => ?_)
    · rw [if_pos c0] at h
      refine r_pick [0, 1, 2, 3] (lo' := [(0, .ref pL0), (2, .int xL2), (3, .int xL3), (4, .int xL4)]) rfl ?_
      exact hk85 _ h
    · rw [if_neg c0] at h
      refine r_iload (dc_X10_partOf 28 rfl) rfl ?_
      refine r_iload (dc_X10_partOf 29 rfl) rfl ?_
      refine r_icmp_eq (dc_X10_partOf 30 rfl) (tgt := 79) (by decide) (fun c0 => ?_) (fun c0 => ?_)
      · rw [if_pos c0] at h
        refine r_iinc (dc_X10_partOf 49 rfl) rfl (kinc_1 _) (by decide) (lo' := [(5, .int (xL5 + (1 : Int32))), (0, .ref pL0), (2, .int xL2), (3, .int xL3), (4, .int xL4)]) rfl ?_
        refine r_goto (dc_X10_partOf 50 rfl) (tgt := 33) (by decide) ?_
        refine r_pick [1, 2, 3, 4, 0] (lo' := [(0, .ref pL0), (2, .int xL2), (3, .int xL3), (4, .int xL4), (5, .int (xL5 + (1 : Int32)))]) rfl ?_
        exact ih _ _ h
      · rw [if_neg c0] at h
        refine r_iload_n (dc_X10_partOf 31 rfl) rfl rfl ?_
        refine r_iload (dc_X10_partOf 32 rfl) rfl ?_
        refine r_ishr (dc_X10_partOf 33 rfl) ?_
        refine r_iconst (dc_X10_partOf 34 rfl) kiconst_1 ?_
        refine r_iand (dc_X10_partOf 35 rfl) ?_
        refine r_iconst (dc_X10_partOf 36 rfl) kiconst_1 ?_
        refine r_icmp_ne (dc_X10_partOf 37 rfl) (tgt := 79) (by decide) (fun c0 => ?_) (fun c0 => ?_)
        · rw [if_neg c0] at h
          refine r_iinc (dc_X10_partOf 49 rfl) rfl (kinc_1 _) (by decide) (lo' := [(5, .int (xL5 + (1 : Int32))), (0, .ref pL0), (2, .int xL2), (3, .int xL3), (4, .int xL4)]) rfl ?_
          refine r_goto (dc_X10_partOf 50 rfl) (tgt := 33) (by decide) ?_
          refine r_pick [1, 2, 3, 4, 0] (lo' := [(0, .ref pL0), (2, .int xL2), (3, .int xL3), (4, .int xL4), (5, .int (xL5 + (1 : Int32)))]) rfl ?_
          exact ih _ _ h
        · rw [if_pos c0] at h
          refine r_aload_n (dc_X10_partOf 38 rfl) rfl rfl ?_
          refine r_iload (dc_X10_partOf 39 rfl) rfl ?_
          refine r_iload (dc_X10_partOf 40 rfl) rfl ?_
          obtain ⟨x7, e0, h⟩ := Option.bind_eq_some_iff.mp h
          refine r_callV (dc_X10_partOf 41 rfl) mv_X10_isCut ml_RX10_197 (As := [.int xL4, .int xL5]) (t_X10_isCut (d := d - 1) hl (by omega) e0) (by omega) rfl (Nat.le_of_ble_eq_true rfl) ?_
          refine r_if_ne (dc_X10_partOf 42 rfl) (tgt := 79) (by decide) (fun c0 => ?_) (fun c0 => ?_)
          · rw [if_neg c0] at h
            refine r_iinc (dc_X10_partOf 49 rfl) rfl (kinc_1 _) (by decide) (lo' := [(5, .int (xL5 + (1 : Int32))), (0, .ref pL0), (2, .int xL2), (3, .int xL3), (4, .int xL4)]) rfl ?_
            refine r_goto (dc_X10_partOf 50 rfl) (tgt := 33) (by decide) ?_
            refine r_pick [1, 2, 3, 4, 0] (lo' := [(0, .ref pL0), (2, .int xL2), (3, .int xL3), (4, .int xL4), (5, .int (xL5 + (1 : Int32)))]) rfl ?_
            exact ih _ _ h
          · rw [if_pos c0] at h
            refine r_iload_n (dc_X10_partOf 43 rfl) rfl rfl ?_
            refine r_iconst (dc_X10_partOf 44 rfl) kiconst_1 ?_
            refine r_iload (dc_X10_partOf 45 rfl) rfl ?_
            refine r_ishl (dc_X10_partOf 46 rfl) ?_
            refine r_ior (dc_X10_partOf 47 rfl) ?_
            refine r_istore_n (dc_X10_partOf 48 rfl) rfl (by decide) (lo' := [(2, .int (xL2 ||| ((1 : Int32) <<< (xL5 &&& 31)))), (0, .ref pL0), (3, .int xL3), (4, .int xL4), (5, .int xL5)]) rfl ?_
            refine r_iinc (dc_X10_partOf 49 rfl) rfl (kinc_1 _) (by decide) (lo' := [(5, .int (xL5 + (1 : Int32))), (2, .int (xL2 ||| ((1 : Int32) <<< (xL5 &&& 31)))), (0, .ref pL0), (3, .int xL3), (4, .int xL4)]) rfl ?_
            refine r_goto (dc_X10_partOf 50 rfl) (tgt := 33) (by decide) ?_
            refine r_pick [2, 1, 3, 4, 0] (lo' := [(0, .ref pL0), (2, .int (xL2 ||| ((1 : Int32) <<< (xL5 &&& 31)))), (3, .int xL3), (4, .int xL4), (5, .int (xL5 + (1 : Int32)))]) rfl ?_
            exact ih _ _ h
theorem l_X10_partOf_L19 {G : Gx} {d : Nat} (hl : G.1.stackTraces = false) (hd : 3 ≤ d) {sL : Sto} {pL0 : Nat} {xL3 : Int32} {r : Int32} {k91 : Int32 → Option Int32}
    (hk91 : ∀ (xL2 : Int32), k91 xL2 = some r → J G d m_X10_partOf 91 [(0, .ref pL0), (2, .int xL2), (3, .int xL3)] [] sL (.inl (some (.int r))) sL)
  : ∀ (f : Nat) (xL2 : Int32) (xL4 : Int32), F_X10_partOf_L19 sL pL0 f xL2 xL4 k91 = some r → J G d m_X10_partOf 19 [(0, .ref pL0), (2, .int xL2), (3, .int xL3), (4, .int xL4)] [] sL (.inl (some (.int r))) sL := by
  intro f
  induction f with
  | zero => intro xL2 xL4 h; rw [F_X10_partOf_L19] at h; cases h
  | succ f ih =>
    intro xL2 xL4 h
    rw [F_X10_partOf_L19] at h
    refine r_iload (dc_X10_partOf 14 rfl) rfl ?_
    refine r_aload_n (dc_X10_partOf 15 rfl) rfl rfl ?_
    obtain ⟨p3, e0, h⟩ := Option.bind_eq_some_iff.mp h
    refine r_getR (dc_X10_partOf 16 rfl) fl_RX10_14 e0 ?_
    refine r_iconst (dc_X10_partOf 17 rfl) kiconst_0 ?_
    obtain ⟨x4, e0, h⟩ := Option.bind_eq_some_iff.mp h
    refine r_iald (dc_X10_partOf 18 rfl) e0 ?_
    refine r_icmp_ge (dc_X10_partOf 19 rfl) (tgt := 91) (by decide) (fun c0 => ?_) (fun c0 => ?_)
    · rw [if_pos c0] at h
      refine r_pick [0, 1, 2] (lo' := [(0, .ref pL0), (2, .int xL2), (3, .int xL3)]) rfl ?_
      exact hk91 _ h
    · rw [if_neg c0] at h
      refine r_iconst (dc_X10_partOf 20 rfl) kiconst_0 ?_
      refine r_istore (dc_X10_partOf 21 rfl) (by decide) (lo' := [(5, .int (0 : Int32)), (0, .ref pL0), (2, .int xL2), (3, .int xL3), (4, .int xL4)]) rfl ?_
      refine r_pick [1, 2, 3, 4, 0] (lo' := [(0, .ref pL0), (2, .int xL2), (3, .int xL3), (4, .int xL4), (5, .int (0 : Int32))]) rfl ?_
      refine l_X10_partOf_L33 hl hd (hk85 := ?_) fu _ _ h
      · intro x8 h
        refine r_iinc (dc_X10_partOf 51 rfl) rfl (kinc_1 _) (by decide) (lo' := [(4, .int (xL4 + (1 : Int32))), (0, .ref pL0), (2, .int x8), (3, .int xL3)]) rfl ?_
        refine r_goto (dc_X10_partOf 52 rfl) (tgt := 19) (by decide) ?_
        refine r_pick [1, 2, 3, 0] (lo' := [(0, .ref pL0), (2, .int x8), (3, .int xL3), (4, .int (xL4 + (1 : Int32)))]) rfl ?_
        exact ih _ _ h
theorem l_X10_partOf_L6 {G : Gx} {d : Nat} (hl : G.1.stackTraces = false) (hd : 3 ≤ d) {sL : Sto} {pL0 : Nat} {r : Int32} {k97 : Int32 → Option Int32}
    (hk97 : ∀ (xL2 : Int32), k97 xL2 = some r → J G d m_X10_partOf 97 [(2, .int xL2)] [] sL (.inl (some (.int r))) sL)
  : ∀ (f : Nat) (xL2 : Int32) (xL3 : Int32), F_X10_partOf_L6 sL pL0 f xL2 xL3 k97 = some r → J G d m_X10_partOf 6 [(0, .ref pL0), (2, .int xL2), (3, .int xL3)] [] sL (.inl (some (.int r))) sL := by
  intro f
  induction f with
  | zero => intro xL2 xL3 h; rw [F_X10_partOf_L6] at h; cases h
  | succ f ih =>
    intro xL2 xL3 h
    rw [F_X10_partOf_L6] at h
    refine r_iload_n (dc_X10_partOf 6 rfl) rfl rfl ?_
    refine r_aload_n (dc_X10_partOf 7 rfl) rfl rfl ?_
    obtain ⟨p1, e0, h⟩ := Option.bind_eq_some_iff.mp h
    refine r_getR (dc_X10_partOf 8 rfl) fl_RX10_14 e0 ?_
    refine r_iconst (dc_X10_partOf 9 rfl) kiconst_0 ?_
    obtain ⟨x2, e0, h⟩ := Option.bind_eq_some_iff.mp h
    refine r_iald (dc_X10_partOf 10 rfl) e0 ?_
    refine r_icmp_ge (dc_X10_partOf 11 rfl) (tgt := 97) (by decide) (fun c0 => ?_) (fun c0 => ?_)
    · rw [if_pos c0] at h
      refine r_pick [1] (lo' := [(2, .int xL2)]) rfl ?_
      exact hk97 _ h
    · rw [if_neg c0] at h
      refine r_iconst (dc_X10_partOf 12 rfl) kiconst_0 ?_
      refine r_istore (dc_X10_partOf 13 rfl) (by decide) (lo' := [(4, .int (0 : Int32)), (0, .ref pL0), (2, .int xL2), (3, .int xL3)]) rfl ?_
      refine r_pick [1, 2, 3, 0] (lo' := [(0, .ref pL0), (2, .int xL2), (3, .int xL3), (4, .int (0 : Int32))]) rfl ?_
      refine l_X10_partOf_L19 hl hd (hk91 := ?_) fu _ _ h
      · intro x9 h
        refine r_iinc (dc_X10_partOf 53 rfl) rfl (kinc_1 _) (by decide) (lo' := [(3, .int (xL3 + (1 : Int32))), (0, .ref pL0), (2, .int x9)]) rfl ?_
        refine r_goto (dc_X10_partOf 54 rfl) (tgt := 6) (by decide) ?_
        refine r_pick [1, 2, 0] (lo' := [(0, .ref pL0), (2, .int x9), (3, .int (xL3 + (1 : Int32)))]) rfl ?_
        exact ih _ _ h
theorem t_X10_partOf {G : Gx} {d : Nat} (hl : G.1.stackTraces = false) (hd : 3 ≤ d) {σ : Sto} {a0 : Nat} {xa1 : Int32} {r : Int32} (h : F_X10_partOf σ a0 xa1 = some r) : Mi G d m_X10_partOf 10 a0 [.int xa1] σ (.inl (some (.int r))) σ := by
  rw [F_X10_partOf] at h
  obtain ⟨hg, h⟩ := chk_some h
  refine ⟨J.toMt (lo := [(0, .ref a0), (1, .int xa1)]) pn_RX10 rfl hl (Nat.le_of_ble_eq_true rfl) rfl ?_, hg⟩
  refine r_iconst (dc_X10_partOf 0 rfl) kiconst_1 ?_
  refine r_iload_n (dc_X10_partOf 1 rfl) rfl rfl ?_
  refine r_ishl (dc_X10_partOf 2 rfl) ?_
  refine r_istore_n (dc_X10_partOf 3 rfl) rfl (by decide) (lo' := [(2, .int ((1 : Int32) <<< (xa1 &&& 31))), (0, .ref a0), (1, .int xa1)]) rfl ?_
  refine r_iconst (dc_X10_partOf 4 rfl) kiconst_0 ?_
  refine r_istore_n (dc_X10_partOf 5 rfl) rfl (by decide) (lo' := [(3, .int (0 : Int32)), (2, .int ((1 : Int32) <<< (xa1 &&& 31))), (0, .ref a0), (1, .int xa1)]) rfl ?_
  refine r_pick [2, 1, 0] (lo' := [(0, .ref a0), (2, .int ((1 : Int32) <<< (xa1 &&& 31))), (3, .int (0 : Int32))]) rfl ?_
  refine l_X10_partOf_L6 hl hd (hk97 := ?_) fu _ _ h
  · intro x10 h
    refine r_iload_n (dc_X10_partOf 55 rfl) rfl rfl ?_
    cases h
    exact r_ireturn (dc_X10_partOf 56 rfl) rfl
theorem l_X10_part_L44 {G : Gx} {d : Nat} (hl : G.1.stackTraces = false) (hd : 4 ≤ d) {sL : Sto} {pL0 : Nat} {r : (Int32 × Sto)} {k85 : Int32 → Option (Int32 × Sto)}
    (hk85 : ∀ (xL2 : Int32), k85 xL2 = some r → J G d m_X10_part 85 [(2, .int xL2)] [] sL (.inl (some (.int r.1))) r.2)
  : ∀ (f : Nat) (xL2 : Int32) (xL3 : Int32), F_X10_part_L44 sL pL0 f xL2 xL3 k85 = some r → J G d m_X10_part 44 [(0, .ref pL0), (2, .int xL2), (3, .int xL3)] [] sL (.inl (some (.int r.1))) r.2 := by
  intro f
  induction f with
  | zero => intro xL2 xL3 h; rw [F_X10_part_L44] at h; cases h
  | succ f ih =>
    intro xL2 xL3 h
    rw [F_X10_part_L44] at h
    refine r_iload_n (dc_X10_part 28 rfl) rfl rfl ?_
    refine r_aload_n (dc_X10_part 29 rfl) rfl rfl ?_
    obtain ⟨p3, e0, h⟩ := Option.bind_eq_some_iff.mp h
    refine r_getR (dc_X10_part 30 rfl) fl_RX10_14 e0 ?_
    refine r_iconst (dc_X10_part 31 rfl) kiconst_0 ?_
    obtain ⟨x4, e0, h⟩ := Option.bind_eq_some_iff.mp h
    refine r_iald (dc_X10_part 32 rfl) e0 ?_
    refine r_icmp_ge (dc_X10_part 33 rfl) (tgt := 85) (by decide) (fun c0 => ?_) (fun c0 => ?_)
    · rw [if_pos c0] at h
      refine r_pick [1] (lo' := [(2, .int xL2)]) rfl ?_
      exact hk85 _ h
    · rw [if_neg c0] at h
      refine r_iload_n (dc_X10_part 34 rfl) rfl rfl ?_
      refine r_aload_n (dc_X10_part 35 rfl) rfl rfl ?_
      refine r_iload_n (dc_X10_part 36 rfl) rfl rfl ?_
      obtain ⟨x5, e0, h⟩ := Option.bind_eq_some_iff.mp h
      refine r_callV (dc_X10_part 37 rfl) mv_X10_partOf ml_RX10_336 (As := [.int xL3]) (t_X10_partOf (d := d - 1) hl (by omega) e0) (by omega) rfl (Nat.le_of_ble_eq_true rfl) ?_
      refine r_iconst (dc_X10_part 38 rfl) kiconst_1 ?_
      refine r_iload_n (dc_X10_part 39 rfl) rfl rfl ?_
      refine r_ishl (dc_X10_part 40 rfl) ?_
      refine r_iconst (dc_X10_part 41 rfl) kiconst_1 ?_
      refine r_isub (dc_X10_part 42 rfl) ?_
      refine r_iand (dc_X10_part 43 rfl) ?_
      refine jn_elim h (Q := fun (j : Int32 → Option (Int32 × Sto)) => ∀ (x7 : Int32), j x7 = some r → J G d m_X10_part 74 [(0, .ref pL0), (3, .int xL3)] [.int x7, .int xL2] sL (.inl (some (.int r.1))) r.2) ?_ (fun j6 hj6 h => ?_)
      · intro x7 h
        obtain ⟨x8, e0, h⟩ := Option.bind_eq_some_iff.mp h
        refine r_callS (dc_X10_part 48 rfl) ms_X10_flag ml_RX10_74 (As := [.int x7]) (t_X10_flag (d := d - 1) hl (by omega) e0) (by omega) rfl (Nat.le_of_ble_eq_true rfl) ?_
        refine r_iadd (dc_X10_part 49 rfl) ?_
        refine r_istore_n (dc_X10_part 50 rfl) rfl (by decide) (lo' := [(2, .int (xL2 + x8)), (0, .ref pL0), (3, .int xL3)]) rfl ?_
        refine r_iinc (dc_X10_part 51 rfl) rfl (kinc_1 _) (by decide) (lo' := [(3, .int (xL3 + (1 : Int32))), (2, .int (xL2 + x8)), (0, .ref pL0)]) rfl ?_
        refine r_goto (dc_X10_part 52 rfl) (tgt := 44) (by decide) ?_
        refine r_pick [2, 1, 0] (lo' := [(0, .ref pL0), (2, .int (xL2 + x8)), (3, .int (xL3 + (1 : Int32)))]) rfl ?_
        exact ih _ _ h
      refine r_if_ne (dc_X10_part 44 rfl) (tgt := 73) (by decide) (fun c0 => ?_) (fun c0 => ?_)
      · rw [if_neg c0] at h
        refine r_iconst (dc_X10_part 47 rfl) kiconst_0 ?_
        refine r_pick [0, 2] (lo' := [(0, .ref pL0), (3, .int xL3)]) rfl ?_
        exact hj6 _ h
      · rw [if_pos c0] at h
        refine r_iconst (dc_X10_part 45 rfl) kiconst_1 ?_
        refine r_goto (dc_X10_part 46 rfl) (tgt := 74) (by decide) ?_
        refine r_pick [0, 2] (lo' := [(0, .ref pL0), (3, .int xL3)]) rfl ?_
        exact hj6 _ h
theorem t_X10_part {G : Gx} {d : Nat} (hl : G.1.stackTraces = false) (hd : 4 ≤ d) {σ : Sto} {a0 : Nat} {xa1 : Int32} {r : (Int32 × Sto)} (h : F_X10_part σ a0 xa1 = some r) : Mi G d m_X10_part 10 a0 [.int xa1] σ (.inl (some (.int r.1))) r.2 := by
  rw [F_X10_part] at h
  obtain ⟨hg, h⟩ := chk_some h
  refine ⟨J.toMt (lo := [(0, .ref a0), (1, .int xa1)]) pn_RX10 rfl hl (Nat.le_of_ble_eq_true rfl) rfl ?_, hg⟩
  refine r_aload_n (dc_X10_part 0 rfl) rfl rfl ?_
  refine r_iconst (dc_X10_part 1 rfl) kiconst_0 ?_
  obtain ⟨s1, e0, h⟩ := Option.bind_eq_some_iff.mp h
  refine r_put (dc_X10_part 2 rfl) pl_RX10_1 rfl e0 ?_
  refine r_aload_n (dc_X10_part 3 rfl) rfl rfl ?_
  refine r_iconst (dc_X10_part 4 rfl) kiconst_0 ?_
  obtain ⟨s2, e0, h⟩ := Option.bind_eq_some_iff.mp h
  refine r_put (dc_X10_part 5 rfl) pl_RX10_59 rfl e0 ?_
  refine r_iload_n (dc_X10_part 6 rfl) rfl rfl ?_
  refine r_iconst (dc_X10_part 7 rfl) kiconst_m1 ?_
  refine r_icmp_eq (dc_X10_part 8 rfl) (tgt := 29) (by decide) (fun c0 => ?_) (fun c0 => ?_)
  · rw [if_pos c0] at h
    refine r_iload_n (dc_X10_part 17 rfl) rfl rfl ?_
    refine r_iconst (dc_X10_part 18 rfl) kiconst_m1 ?_
    refine r_icmp_eq (dc_X10_part 19 rfl) (tgt := 40) (by decide) (fun c0 => ?_) (fun c0 => ?_)
    · rw [if_pos c0] at h
      refine r_iconst (dc_X10_part 24 rfl) kiconst_0 ?_
      refine r_istore_n (dc_X10_part 25 rfl) rfl (by decide) (lo' := [(2, .int (0 : Int32)), (0, .ref a0), (1, .int xa1)]) rfl ?_
      refine r_iconst (dc_X10_part 26 rfl) kiconst_0 ?_
      refine r_istore_n (dc_X10_part 27 rfl) rfl (by decide) (lo' := [(3, .int (0 : Int32)), (2, .int (0 : Int32)), (0, .ref a0), (1, .int xa1)]) rfl ?_
      refine r_pick [2, 1, 0] (lo' := [(0, .ref a0), (2, .int (0 : Int32)), (3, .int (0 : Int32))]) rfl ?_
      refine l_X10_part_L44 hl hd (hk85 := ?_) fu _ _ h
      · intro x9 h
        refine r_iload_n (dc_X10_part 53 rfl) rfl rfl ?_
        cases h
        exact r_ireturn (dc_X10_part 54 rfl) rfl
    · rw [if_neg c0] at h
      refine r_aload_n (dc_X10_part 20 rfl) rfl rfl ?_
      refine r_iload_n (dc_X10_part 21 rfl) rfl rfl ?_
      obtain ⟨x10, e0, h⟩ := Option.bind_eq_some_iff.mp h
      refine r_callV (dc_X10_part 22 rfl) mv_X10_partOf ml_RX10_336 (As := [.int xa1]) (t_X10_partOf (d := d - 1) hl (by omega) e0) (by omega) rfl (Nat.le_of_ble_eq_true rfl) ?_
      cases h
      exact r_ireturn (dc_X10_part 23 rfl) rfl
  · rw [if_neg c0] at h
    refine r_aload_n (dc_X10_part 9 rfl) rfl rfl ?_
    refine r_iload_n (dc_X10_part 10 rfl) rfl rfl ?_
    obtain ⟨x11, e0, h⟩ := Option.bind_eq_some_iff.mp h
    refine r_callV (dc_X10_part 11 rfl) mv_X10_isSite ml_RX10_93 (As := [.int xa1]) (t_X10_isSite (d := d - 1) hl (by omega) e0) (by omega) rfl (Nat.le_of_ble_eq_true rfl) ?_
    refine r_if_ne (dc_X10_part 12 rfl) (tgt := 29) (by decide) (fun c0 => ?_) (fun c0 => ?_)
    · rw [if_neg c0] at h
      refine r_iload_n (dc_X10_part 17 rfl) rfl rfl ?_
      refine r_iconst (dc_X10_part 18 rfl) kiconst_m1 ?_
      refine r_icmp_eq (dc_X10_part 19 rfl) (tgt := 40) (by decide) (fun c0 => ?_) (fun c0 => ?_)
      · rw [if_pos c0] at h
        refine r_iconst (dc_X10_part 24 rfl) kiconst_0 ?_
        refine r_istore_n (dc_X10_part 25 rfl) rfl (by decide) (lo' := [(2, .int (0 : Int32)), (0, .ref a0), (1, .int xa1)]) rfl ?_
        refine r_iconst (dc_X10_part 26 rfl) kiconst_0 ?_
        refine r_istore_n (dc_X10_part 27 rfl) rfl (by decide) (lo' := [(3, .int (0 : Int32)), (2, .int (0 : Int32)), (0, .ref a0), (1, .int xa1)]) rfl ?_
        refine r_pick [2, 1, 0] (lo' := [(0, .ref a0), (2, .int (0 : Int32)), (3, .int (0 : Int32))]) rfl ?_
        refine l_X10_part_L44 hl hd (hk85 := ?_) fu _ _ h
        · intro x18 h
          refine r_iload_n (dc_X10_part 53 rfl) rfl rfl ?_
          cases h
          exact r_ireturn (dc_X10_part 54 rfl) rfl
      · rw [if_neg c0] at h
        refine r_aload_n (dc_X10_part 20 rfl) rfl rfl ?_
        refine r_iload_n (dc_X10_part 21 rfl) rfl rfl ?_
        obtain ⟨x19, e0, h⟩ := Option.bind_eq_some_iff.mp h
        refine r_callV (dc_X10_part 22 rfl) mv_X10_partOf ml_RX10_336 (As := [.int xa1]) (t_X10_partOf (d := d - 1) hl (by omega) e0) (by omega) rfl (Nat.le_of_ble_eq_true rfl) ?_
        cases h
        exact r_ireturn (dc_X10_part 23 rfl) rfl
    · rw [if_pos c0] at h
      refine r_aload_n (dc_X10_part 13 rfl) rfl rfl ?_
      refine r_iconst (dc_X10_part 14 rfl) kiconst_1 ?_
      obtain ⟨x21, s20, e0, h⟩ := wb_some h
      refine r_callV (dc_X10_part 15 rfl) mv_X10_fails ml_RX10_101 (As := [.int (1 : Int32)]) (t_X10_fails (d := d - 1) hl (by omega) e0) (by omega) rfl (Nat.le_of_ble_eq_true rfl) ?_
      cases h
      exact r_ireturn (dc_X10_part 16 rfl) rfl
theorem l_X10_areLike_L13 {G : Gx} {d : Nat} (hl : G.1.stackTraces = false) (hd : 1 ≤ d) {sL : Sto} {pL0 : Nat} {xL1 : Int32} {r : Int32} {k55 : Option Int32}
    (hk55 : k55  = some r → J G d m_X10_areLike 55 [(0, .ref pL0), (1, .int xL1)] [] sL (.inl (some (.int r))) sL)
  : ∀ (f : Nat) (xL2 : Int32), F_X10_areLike_L13 sL pL0 xL1 f xL2 k55 = some r → J G d m_X10_areLike 13 [(0, .ref pL0), (1, .int xL1), (2, .int xL2)] [] sL (.inl (some (.int r))) sL := by
  intro f
  induction f with
  | zero => intro xL2 h; rw [F_X10_areLike_L13] at h; cases h
  | succ f ih =>
    intro xL2 h
    rw [F_X10_areLike_L13] at h
    refine r_iload_n (dc_X10_areLike 9 rfl) rfl rfl ?_
    refine r_iconst (dc_X10_areLike 10 rfl) kiconst_4 ?_
    refine r_icmp_ge (dc_X10_areLike 11 rfl) (tgt := 55) (by decide) (fun c0 => ?_) (fun c0 => ?_)
    · rw [if_pos c0] at h
      refine r_pick [0, 1] (lo' := [(0, .ref pL0), (1, .int xL1)]) rfl ?_
      exact hk55  h
    · rw [if_neg c0] at h
      refine r_aload_n (dc_X10_areLike 12 rfl) rfl rfl ?_
      refine r_iload_n (dc_X10_areLike 13 rfl) rfl rfl ?_
      obtain ⟨x2, e0, h⟩ := Option.bind_eq_some_iff.mp h
      refine r_callS (dc_X10_areLike 14 rfl) ms_X10_stateOf ml_RX10_111 (As := [.int xL1]) (t_X10_stateOf (d := d - 1) hl (by omega) e0) (by omega) rfl (Nat.le_of_ble_eq_true rfl) ?_
      refine r_bipush (dc_X10_areLike 15 rfl) kbipush_25 ?_
      refine r_iadd (dc_X10_areLike 16 rfl) ?_
      refine r_iload_n (dc_X10_areLike 17 rfl) rfl rfl ?_
      refine r_iadd (dc_X10_areLike 18 rfl) ?_
      obtain ⟨x3, e0, h⟩ := Option.bind_eq_some_iff.mp h
      refine r_callV (dc_X10_areLike 19 rfl) mv_X10_of ml_RX10_62 (As := [.int ((x2 + (25 : Int32)) + xL2)]) (t_X10_of (d := d - 1) hl (by omega) e0) (by omega) rfl (Nat.le_of_ble_eq_true rfl) ?_
      refine r_aload_n (dc_X10_areLike 20 rfl) rfl rfl ?_
      refine r_iconst (dc_X10_areLike 21 rfl) kiconst_0 ?_
      obtain ⟨x4, e0, h⟩ := Option.bind_eq_some_iff.mp h
      refine r_callS (dc_X10_areLike 22 rfl) ms_X10_stateOf ml_RX10_111 (As := [.int (0 : Int32)]) (t_X10_stateOf (d := d - 1) hl (by omega) e0) (by omega) rfl (Nat.le_of_ble_eq_true rfl) ?_
      refine r_bipush (dc_X10_areLike 23 rfl) kbipush_25 ?_
      refine r_iadd (dc_X10_areLike 24 rfl) ?_
      refine r_iload_n (dc_X10_areLike 25 rfl) rfl rfl ?_
      refine r_iadd (dc_X10_areLike 26 rfl) ?_
      obtain ⟨x5, e0, h⟩ := Option.bind_eq_some_iff.mp h
      refine r_callV (dc_X10_areLike 27 rfl) mv_X10_of ml_RX10_62 (As := [.int ((x4 + (25 : Int32)) + xL2)]) (t_X10_of (d := d - 1) hl (by omega) e0) (by omega) rfl (Nat.le_of_ble_eq_true rfl) ?_
      refine r_icmp_eq (dc_X10_areLike 28 rfl) (tgt := 49) (by decide) (fun c0 => ?_) (fun c0 => ?_)
      · rw [if_pos c0] at h
        refine r_iinc (dc_X10_areLike 31 rfl) rfl (kinc_1 _) (by decide) (lo' := [(2, .int (xL2 + (1 : Int32))), (0, .ref pL0), (1, .int xL1)]) rfl ?_
        refine r_goto (dc_X10_areLike 32 rfl) (tgt := 13) (by decide) ?_
        refine r_pick [1, 2, 0] (lo' := [(0, .ref pL0), (1, .int xL1), (2, .int (xL2 + (1 : Int32)))]) rfl ?_
        exact ih _ h
      · rw [if_neg c0] at h
        refine r_iconst (dc_X10_areLike 29 rfl) kiconst_0 ?_
        cases h
        exact r_zreturn (dc_X10_areLike 30 rfl) rfl (Or.inl rfl)
theorem l_X10_areLike_L2 {G : Gx} {d : Nat} (hl : G.1.stackTraces = false) (hd : 1 ≤ d) {sL : Sto} {pL0 : Nat} {r : Int32} {k61 : Option Int32}
    (hk61 : k61  = some r → J G d m_X10_areLike 61 [] [] sL (.inl (some (.int r))) sL)
  : ∀ (f : Nat) (xL1 : Int32), F_X10_areLike_L2 sL pL0 f xL1 k61 = some r → J G d m_X10_areLike 2 [(0, .ref pL0), (1, .int xL1)] [] sL (.inl (some (.int r))) sL := by
  intro f
  induction f with
  | zero => intro xL1 h; rw [F_X10_areLike_L2] at h; cases h
  | succ f ih =>
    intro xL1 h
    rw [F_X10_areLike_L2] at h
    refine r_iload_n (dc_X10_areLike 2 rfl) rfl rfl ?_
    refine r_aload_n (dc_X10_areLike 3 rfl) rfl rfl ?_
    refine r_iconst (dc_X10_areLike 4 rfl) kiconst_0 ?_
    obtain ⟨x1, e0, h⟩ := Option.bind_eq_some_iff.mp h
    refine r_callV (dc_X10_areLike 5 rfl) mv_X10_of ml_RX10_62 (As := [.int (0 : Int32)]) (t_X10_of (d := d - 1) hl (by omega) e0) (by omega) rfl (Nat.le_of_ble_eq_true rfl) ?_
    refine r_icmp_ge (dc_X10_areLike 6 rfl) (tgt := 61) (by decide) (fun c0 => ?_) (fun c0 => ?_)
    · rw [if_pos c0] at h
      refine r_pick [] (lo' := []) rfl ?_
      exact hk61  h
    · rw [if_neg c0] at h
      refine r_iconst (dc_X10_areLike 7 rfl) kiconst_0 ?_
      refine r_istore_n (dc_X10_areLike 8 rfl) rfl (by decide) (lo' := [(2, .int (0 : Int32)), (0, .ref pL0), (1, .int xL1)]) rfl ?_
      refine r_pick [1, 2, 0] (lo' := [(0, .ref pL0), (1, .int xL1), (2, .int (0 : Int32))]) rfl ?_
      refine l_X10_areLike_L13 hl hd (hk55 := ?_) fu _ h
      · intro h
        refine r_iinc (dc_X10_areLike 33 rfl) rfl (kinc_1 _) (by decide) (lo' := [(1, .int (xL1 + (1 : Int32))), (0, .ref pL0)]) rfl ?_
        refine r_goto (dc_X10_areLike 34 rfl) (tgt := 2) (by decide) ?_
        refine r_pick [1, 0] (lo' := [(0, .ref pL0), (1, .int (xL1 + (1 : Int32)))]) rfl ?_
        exact ih _ h
theorem t_X10_areLike {G : Gx} {d : Nat} (hl : G.1.stackTraces = false) (hd : 1 ≤ d) {σ : Sto} {a0 : Nat} {r : Int32} (h : F_X10_areLike σ a0 = some r) : Mi G d m_X10_areLike 10 a0 [] σ (.inl (some (.int r))) σ := by
  rw [F_X10_areLike] at h
  obtain ⟨hg, h⟩ := chk_some h
  refine ⟨J.toMt (lo := [(0, .ref a0)]) pn_RX10 rfl hl (Nat.le_of_ble_eq_true rfl) rfl ?_, hg⟩
  refine r_iconst (dc_X10_areLike 0 rfl) kiconst_1 ?_
  refine r_istore_n (dc_X10_areLike 1 rfl) rfl (by decide) (lo' := [(1, .int (1 : Int32)), (0, .ref a0)]) rfl ?_
  refine r_pick [1, 0] (lo' := [(0, .ref a0), (1, .int (1 : Int32))]) rfl ?_
  refine l_X10_areLike_L2 hl hd (hk61 := ?_) fu _ h
  · intro h
    refine r_iconst (dc_X10_areLike 35 rfl) kiconst_1 ?_
    cases h
    exact r_zreturn (dc_X10_areLike 36 rfl) rfl (Or.inr rfl)
theorem l_X10_areEmpty_L2 {G : Gx} {d : Nat} (hl : G.1.stackTraces = false) (hd : 1 ≤ d) {sL : Sto} {pL0 : Nat} {r : Int32} {k33 : Option Int32}
    (hk33 : k33  = some r → J G d m_X10_areEmpty 33 [] [] sL (.inl (some (.int r))) sL)
  : ∀ (f : Nat) (xL1 : Int32), F_X10_areEmpty_L2 sL pL0 f xL1 k33 = some r → J G d m_X10_areEmpty 2 [(0, .ref pL0), (1, .int xL1)] [] sL (.inl (some (.int r))) sL := by
  intro f
  induction f with
  | zero => intro xL1 h; rw [F_X10_areEmpty_L2] at h; cases h
  | succ f ih =>
    intro xL1 h
    rw [F_X10_areEmpty_L2] at h
    refine r_iload_n (dc_X10_areEmpty 2 rfl) rfl rfl ?_
    refine r_aload_n (dc_X10_areEmpty 3 rfl) rfl rfl ?_
    refine r_iconst (dc_X10_areEmpty 4 rfl) kiconst_0 ?_
    obtain ⟨x1, e0, h⟩ := Option.bind_eq_some_iff.mp h
    refine r_callV (dc_X10_areEmpty 5 rfl) mv_X10_of ml_RX10_62 (As := [.int (0 : Int32)]) (t_X10_of (d := d - 1) hl (by omega) e0) (by omega) rfl (Nat.le_of_ble_eq_true rfl) ?_
    refine r_icmp_ge (dc_X10_areEmpty 6 rfl) (tgt := 33) (by decide) (fun c0 => ?_) (fun c0 => ?_)
    · rw [if_pos c0] at h
      refine r_pick [] (lo' := []) rfl ?_
      exact hk33  h
    · rw [if_neg c0] at h
      refine r_aload_n (dc_X10_areEmpty 7 rfl) rfl rfl ?_
      refine r_iload_n (dc_X10_areEmpty 8 rfl) rfl rfl ?_
      obtain ⟨x2, e0, h⟩ := Option.bind_eq_some_iff.mp h
      refine r_callS (dc_X10_areEmpty 9 rfl) ms_X10_stateOf ml_RX10_111 (As := [.int xL1]) (t_X10_stateOf (d := d - 1) hl (by omega) e0) (by omega) rfl (Nat.le_of_ble_eq_true rfl) ?_
      refine r_bipush (dc_X10_areEmpty 10 rfl) kbipush_33 ?_
      refine r_iadd (dc_X10_areEmpty 11 rfl) ?_
      obtain ⟨x3, e0, h⟩ := Option.bind_eq_some_iff.mp h
      refine r_callV (dc_X10_areEmpty 12 rfl) mv_X10_of ml_RX10_62 (As := [.int (x2 + (33 : Int32))]) (t_X10_of (d := d - 1) hl (by omega) e0) (by omega) rfl (Nat.le_of_ble_eq_true rfl) ?_
      refine r_if_le (dc_X10_areEmpty 13 rfl) (tgt := 27) (by decide) (fun c0 => ?_) (fun c0 => ?_)
      · rw [if_pos c0] at h
        refine r_iinc (dc_X10_areEmpty 16 rfl) rfl (kinc_1 _) (by decide) (lo' := [(1, .int (xL1 + (1 : Int32))), (0, .ref pL0)]) rfl ?_
        refine r_goto (dc_X10_areEmpty 17 rfl) (tgt := 2) (by decide) ?_
        refine r_pick [1, 0] (lo' := [(0, .ref pL0), (1, .int (xL1 + (1 : Int32)))]) rfl ?_
        exact ih _ h
      · rw [if_neg c0] at h
        refine r_iconst (dc_X10_areEmpty 14 rfl) kiconst_0 ?_
        cases h
        exact r_zreturn (dc_X10_areEmpty 15 rfl) rfl (Or.inl rfl)
theorem t_X10_areEmpty {G : Gx} {d : Nat} (hl : G.1.stackTraces = false) (hd : 1 ≤ d) {σ : Sto} {a0 : Nat} {r : Int32} (h : F_X10_areEmpty σ a0 = some r) : Mi G d m_X10_areEmpty 10 a0 [] σ (.inl (some (.int r))) σ := by
  rw [F_X10_areEmpty] at h
  obtain ⟨hg, h⟩ := chk_some h
  refine ⟨J.toMt (lo := [(0, .ref a0)]) pn_RX10 rfl hl (Nat.le_of_ble_eq_true rfl) rfl ?_, hg⟩
  refine r_iconst (dc_X10_areEmpty 0 rfl) kiconst_0 ?_
  refine r_istore_n (dc_X10_areEmpty 1 rfl) rfl (by decide) (lo' := [(1, .int (0 : Int32)), (0, .ref a0)]) rfl ?_
  refine r_pick [1, 0] (lo' := [(0, .ref a0), (1, .int (0 : Int32))]) rfl ?_
  refine l_X10_areEmpty_L2 hl hd (hk33 := ?_) fu _ h
  · intro h
    refine r_iconst (dc_X10_areEmpty 18 rfl) kiconst_1 ?_
    cases h
    exact r_zreturn (dc_X10_areEmpty 19 rfl) rfl (Or.inr rfl)
theorem l_X10_round_L2 {G : Gx} {d : Nat} (hl : G.1.stackTraces = false) (hd : 6 ≤ d) {pL0 : Nat} {r : Sto} {k77 : Sto → Option Sto}
    (hk77 : ∀ (sL : Sto), k77 sL = some r → J G d m_X10_round 77 [] [] sL (.inl none) r)
  : ∀ (f : Nat) (xL1 : Int32) (sL : Sto), F_X10_round_L2 pL0 f xL1 sL k77 = some r → J G d m_X10_round 2 [(0, .ref pL0), (1, .int xL1)] [] sL (.inl none) r := by
  intro f
  induction f with
  | zero => intro xL1 sL h; rw [F_X10_round_L2] at h; cases h
  | succ f ih =>
    intro xL1 sL h
    rw [F_X10_round_L2] at h
    refine r_iload_n (dc_X10_round 2 rfl) rfl rfl ?_
    refine r_aload_n (dc_X10_round 3 rfl) rfl rfl ?_
    refine r_iconst (dc_X10_round 4 rfl) kiconst_0 ?_
    obtain ⟨x1, e0, h⟩ := Option.bind_eq_some_iff.mp h
    refine r_callV (dc_X10_round 5 rfl) mv_X10_of ml_RX10_62 (As := [.int (0 : Int32)]) (t_X10_of (d := d - 1) hl (by omega) e0) (by omega) rfl (Nat.le_of_ble_eq_true rfl) ?_
    refine r_icmp_ge (dc_X10_round 6 rfl) (tgt := 77) (by decide) (fun c0 => ?_) (fun c0 => ?_)
    · rw [if_pos c0] at h
      refine r_pick [] (lo' := []) rfl ?_
      exact hk77 _ h
    · rw [if_neg c0] at h
      refine r_iload_n (dc_X10_round 7 rfl) rfl rfl ?_
      refine r_iconst (dc_X10_round 8 rfl) kiconst_1 ?_
      refine r_iadd (dc_X10_round 9 rfl) ?_
      refine r_aload_n (dc_X10_round 10 rfl) rfl rfl ?_
      refine r_iconst (dc_X10_round 11 rfl) kiconst_0 ?_
      obtain ⟨x2, e0, h⟩ := Option.bind_eq_some_iff.mp h
      refine r_callV (dc_X10_round 12 rfl) mv_X10_of ml_RX10_62 (As := [.int (0 : Int32)]) (t_X10_of (d := d - 1) hl (by omega) e0) (by omega) rfl (Nat.le_of_ble_eq_true rfl) ?_
      split at h
      · cases h
      rename_i c0
      refine r_irem (dc_X10_round 13 rfl) c0 ?_
      refine r_istore_n (dc_X10_round 14 rfl) rfl (by decide) (lo' := [(2, .int ((xL1 + (1 : Int32)) - (xL1 + (1 : Int32)) / x2 * x2)), (0, .ref pL0), (1, .int xL1)]) rfl ?_
      refine r_aload_n (dc_X10_round 15 rfl) rfl rfl ?_
      refine r_iload_n (dc_X10_round 16 rfl) rfl rfl ?_
      refine r_iload_n (dc_X10_round 17 rfl) rfl rfl ?_
      obtain ⟨x3, e0, h⟩ := Option.bind_eq_some_iff.mp h
      refine r_callV (dc_X10_round 18 rfl) mv_X10_isCut ml_RX10_197 (As := [.int xL1, .int ((xL1 + (1 : Int32)) - (xL1 + (1 : Int32)) / x2 * x2)]) (t_X10_isCut (d := d - 1) hl (by omega) e0) (by omega) rfl (Nat.le_of_ble_eq_true rfl) ?_
      refine r_if_eq (dc_X10_round 19 rfl) (tgt := 33) (by decide) (fun c0 => ?_) (fun c0 => ?_)
      · rw [if_pos c0] at h
        refine r_aload_n (dc_X10_round 21 rfl) rfl rfl ?_
        refine r_ldc (dc_X10_round 22 rfl) ck_RX10_203 ?_
        refine r_iload_n (dc_X10_round 23 rfl) rfl rfl ?_
        refine r_iload_n (dc_X10_round 24 rfl) rfl rfl ?_
        obtain ⟨x5, s4, e0, h⟩ := wb_some h
        refine r_callV (dc_X10_round 25 rfl) mv_X10_lays ml_RX10_200 (As := [.int (49278 : Int32), .int xL1, .int ((xL1 + (1 : Int32)) - (xL1 + (1 : Int32)) / x2 * x2)]) (t_X10_lays (d := d - 1) hl (by omega) e0) (by omega) rfl (Nat.le_of_ble_eq_true rfl) ?_
        refine r_istore_n (dc_X10_round 26 rfl) rfl (by decide) (lo' := [(3, .int x5), (2, .int ((xL1 + (1 : Int32)) - (xL1 + (1 : Int32)) / x2 * x2)), (0, .ref pL0), (1, .int xL1)]) rfl ?_
        refine r_aload_n (dc_X10_round 27 rfl) rfl rfl ?_
        refine r_dup (dc_X10_round 28 rfl) rfl ?_
        obtain ⟨x6, e0, h⟩ := Option.bind_eq_some_iff.mp h
        refine r_getI (dc_X10_round 29 rfl) fl_RX10_339 e0 ?_
        refine r_iload_n (dc_X10_round 30 rfl) rfl rfl ?_
        refine r_iadd (dc_X10_round 31 rfl) ?_
        obtain ⟨s7, e0, h⟩ := Option.bind_eq_some_iff.mp h
        refine r_put (dc_X10_round 32 rfl) pl_RX10_339 rfl e0 ?_
        refine r_aload_n (dc_X10_round 33 rfl) rfl rfl ?_
        refine r_dup (dc_X10_round 34 rfl) rfl ?_
        obtain ⟨x8, e0, h⟩ := Option.bind_eq_some_iff.mp h
        refine r_getI (dc_X10_round 35 rfl) fl_RX10_342 e0 ?_
        refine r_iload_n (dc_X10_round 36 rfl) rfl rfl ?_
        refine r_aload_n (dc_X10_round 37 rfl) rfl rfl ?_
        refine r_ldc (dc_X10_round 38 rfl) ck_RX10_203 ?_
        refine r_iload_n (dc_X10_round 39 rfl) rfl rfl ?_
        refine r_iload_n (dc_X10_round 40 rfl) rfl rfl ?_
        obtain ⟨x10, s9, e0, h⟩ := wb_some h
        refine r_callV (dc_X10_round 41 rfl) mv_X10_comes ml_RX10_207 (As := [.int (49278 : Int32), .int xL1, .int ((xL1 + (1 : Int32)) - (xL1 + (1 : Int32)) / x2 * x2)]) (t_X10_comes (d := d - 1) hl (by omega) e0) (by omega) rfl (Nat.le_of_ble_eq_true rfl) ?_
        refine r_isub (dc_X10_round 42 rfl) ?_
        refine r_iadd (dc_X10_round 43 rfl) ?_
        obtain ⟨s11, e0, h⟩ := Option.bind_eq_some_iff.mp h
        refine r_put (dc_X10_round 44 rfl) pl_RX10_342 rfl e0 ?_
        refine r_iinc (dc_X10_round 45 rfl) rfl (kinc_1 _) (by decide) (lo' := [(1, .int (xL1 + (1 : Int32))), (3, .int x5), (2, .int ((xL1 + (1 : Int32)) - (xL1 + (1 : Int32)) / x2 * x2)), (0, .ref pL0)]) rfl ?_
        refine r_goto (dc_X10_round 46 rfl) (tgt := 2) (by decide) ?_
        refine r_pick [3, 0] (lo' := [(0, .ref pL0), (1, .int (xL1 + (1 : Int32)))]) rfl ?_
        exact ih _ _ h
      · rw [if_neg c0] at h
        refine r_goto (dc_X10_round 20 rfl) (tgt := 71) (by decide) ?_
        refine r_iinc (dc_X10_round 45 rfl) rfl (kinc_1 _) (by decide) (lo' := [(1, .int (xL1 + (1 : Int32))), (2, .int ((xL1 + (1 : Int32)) - (xL1 + (1 : Int32)) / x2 * x2)), (0, .ref pL0)]) rfl ?_
        refine r_goto (dc_X10_round 46 rfl) (tgt := 2) (by decide) ?_
        refine r_pick [2, 0] (lo' := [(0, .ref pL0), (1, .int (xL1 + (1 : Int32)))]) rfl ?_
        exact ih _ _ h
theorem t_X10_round {G : Gx} {d : Nat} (hl : G.1.stackTraces = false) (hd : 6 ≤ d) {σ : Sto} {a0 : Nat} {r : Sto} (h : F_X10_round σ a0 = some r) : Mi G d m_X10_round 10 a0 [] σ (.inl none) r := by
  rw [F_X10_round] at h
  obtain ⟨hg, h⟩ := chk_some h
  refine ⟨J.toMt (lo := [(0, .ref a0)]) pn_RX10 rfl hl (Nat.le_of_ble_eq_true rfl) rfl ?_, hg⟩
  refine r_iconst (dc_X10_round 0 rfl) kiconst_0 ?_
  refine r_istore_n (dc_X10_round 1 rfl) rfl (by decide) (lo' := [(1, .int (0 : Int32)), (0, .ref a0)]) rfl ?_
  refine r_pick [1, 0] (lo' := [(0, .ref a0), (1, .int (0 : Int32))]) rfl ?_
  refine l_X10_round_L2 hl hd (hk77 := ?_) fu _ _ h
  · intro s12 h
    cases h
    exact r_vreturn (dc_X10_round 47 rfl) rfl
theorem l_X10_gossip_L66 {G : Gx} {d : Nat} (hl : G.1.stackTraces = false) (hd : 7 ≤ d) {pL0 : Nat} {xL1 : Int32} {r : (Int32 × Sto)} {k113 : Int32 → Int32 → Sto → Option (Int32 × Sto)}
    (hk113 : ∀ (xL2 : Int32) (xL3 : Int32) (sL : Sto), k113 xL2 xL3 sL = some r → J G d m_X10_gossip 113 [(0, .ref pL0), (1, .int xL1), (2, .int xL2), (3, .int xL3)] [] sL (.inl (some (.int r.1))) r.2)
  : ∀ (f : Nat) (xL2 : Int32) (xL3 : Int32) (xL4 : Int32) (sL : Sto), F_X10_gossip_L66 pL0 f xL2 xL3 xL4 sL k113 = some r → J G d m_X10_gossip 66 [(0, .ref pL0), (1, .int xL1), (2, .int xL2), (3, .int xL3), (4, .int xL4)] [] sL (.inl (some (.int r.1))) r.2 := by
  intro f
  induction f with
  | zero => intro xL2 xL3 xL4 sL h; rw [F_X10_gossip_L66] at h; cases h
  | succ f ih =>
    intro xL2 xL3 xL4 sL h
    rw [F_X10_gossip_L66] at h
    refine r_iload (dc_X10_gossip 37 rfl) rfl ?_
    refine r_bipush (dc_X10_gossip 38 rfl) kbipush_12 ?_
    refine r_icmp_gt (dc_X10_gossip 39 rfl) (tgt := 113) (by decide) (fun c0 => ?_) (fun c0 => ?_)
    · rw [if_pos c0] at h
      refine r_pick [0, 1, 2, 3] (lo' := [(0, .ref pL0), (1, .int xL1), (2, .int xL2), (3, .int xL3)]) rfl ?_
      exact hk113 _ _ _ h
    · rw [if_neg c0] at h
      refine r_aload_n (dc_X10_gossip 40 rfl) rfl rfl ?_
      obtain ⟨s12, e0, h⟩ := Option.bind_eq_some_iff.mp h
      refine r_callV (dc_X10_gossip 41 rfl) mv_X10_round ml_RX10_355 (As := []) (t_X10_round (d := d - 1) hl (by omega) e0) (by omega) rfl (Nat.le_of_ble_eq_true rfl) ?_
      refine r_iload_n (dc_X10_gossip 42 rfl) rfl rfl ?_
      refine r_iconst (dc_X10_gossip 43 rfl) kiconst_m1 ?_
      refine jn_elim h (Q := fun (j : Int32 → Option (Int32 × Sto)) => ∀ (x14 : Int32), j x14 = some r → J G d m_X10_gossip 92 [(0, .ref pL0), (1, .int xL1), (2, .int x14), (3, .int xL3), (4, .int xL4)] [] s12 (.inl (some (.int r.1))) r.2) ?_ (fun j13 hj13 h => ?_)
      · intro x14 h
        refine r_iload_n (dc_X10_gossip 50 rfl) rfl rfl ?_
        refine r_iconst (dc_X10_gossip 51 rfl) kiconst_m1 ?_
        refine r_icmp_ne (dc_X10_gossip 52 rfl) (tgt := 107) (by decide) (fun c0 => ?_) (fun c0 => ?_)
        · rw [if_neg c0] at h
          refine r_iinc (dc_X10_gossip 58 rfl) rfl (kinc_1 _) (by decide) (lo' := [(4, .int (xL4 + (1 : Int32))), (0, .ref pL0), (1, .int xL1), (2, .int x14), (3, .int xL3)]) rfl ?_
          refine r_goto (dc_X10_gossip 59 rfl) (tgt := 66) (by decide) ?_
          refine r_pick [1, 2, 3, 4, 0] (lo' := [(0, .ref pL0), (1, .int xL1), (2, .int x14), (3, .int xL3), (4, .int (xL4 + (1 : Int32)))]) rfl ?_
          exact ih _ _ _ _ h
        · rw [if_pos c0] at h
          refine r_aload_n (dc_X10_gossip 53 rfl) rfl rfl ?_
          obtain ⟨x15, e0, h⟩ := Option.bind_eq_some_iff.mp h
          refine r_callV (dc_X10_gossip 54 rfl) mv_X10_areEmpty ml_RX10_352 (As := []) (t_X10_areEmpty (d := d - 1) hl (by omega) e0) (by omega) rfl (Nat.le_of_ble_eq_true rfl) ?_
          refine r_if_eq (dc_X10_gossip 55 rfl) (tgt := 107) (by decide) (fun c0 => ?_) (fun c0 => ?_)
          · rw [if_pos c0] at h
            refine r_iinc (dc_X10_gossip 58 rfl) rfl (kinc_1 _) (by decide) (lo' := [(4, .int (xL4 + (1 : Int32))), (0, .ref pL0), (1, .int xL1), (2, .int x14), (3, .int xL3)]) rfl ?_
            refine r_goto (dc_X10_gossip 59 rfl) (tgt := 66) (by decide) ?_
            refine r_pick [1, 2, 3, 4, 0] (lo' := [(0, .ref pL0), (1, .int xL1), (2, .int x14), (3, .int xL3), (4, .int (xL4 + (1 : Int32)))]) rfl ?_
            exact ih _ _ _ _ h
          · rw [if_neg c0] at h
            refine r_iload (dc_X10_gossip 56 rfl) rfl ?_
            refine r_istore_n (dc_X10_gossip 57 rfl) rfl (by decide) (lo' := [(3, .int xL4), (0, .ref pL0), (1, .int xL1), (2, .int x14), (4, .int xL4)]) rfl ?_
            refine r_iinc (dc_X10_gossip 58 rfl) rfl (kinc_1 _) (by decide) (lo' := [(4, .int (xL4 + (1 : Int32))), (3, .int xL4), (0, .ref pL0), (1, .int xL1), (2, .int x14)]) rfl ?_
            refine r_goto (dc_X10_gossip 59 rfl) (tgt := 66) (by decide) ?_
            refine r_pick [2, 3, 4, 1, 0] (lo' := [(0, .ref pL0), (1, .int xL1), (2, .int x14), (3, .int xL4), (4, .int (xL4 + (1 : Int32)))]) rfl ?_
            exact ih _ _ _ _ h
      refine r_icmp_ne (dc_X10_gossip 44 rfl) (tgt := 92) (by decide) (fun c0 => ?_) (fun c0 => ?_)
      · rw [if_neg c0] at h
        exact hj13 _ h
      · rw [if_pos c0] at h
        refine r_aload_n (dc_X10_gossip 45 rfl) rfl rfl ?_
        obtain ⟨x16, e0, h⟩ := Option.bind_eq_some_iff.mp h
        refine r_callV (dc_X10_gossip 46 rfl) mv_X10_areLike ml_RX10_348 (As := []) (t_X10_areLike (d := d - 1) hl (by omega) e0) (by omega) rfl (Nat.le_of_ble_eq_true rfl) ?_
        refine r_if_eq (dc_X10_gossip 47 rfl) (tgt := 92) (by decide) (fun c0 => ?_) (fun c0 => ?_)
        · rw [if_pos c0] at h
          exact hj13 _ h
        · rw [if_neg c0] at h
          refine r_iload (dc_X10_gossip 48 rfl) rfl ?_
          refine r_istore_n (dc_X10_gossip 49 rfl) rfl (by decide) (lo' := [(2, .int xL4), (0, .ref pL0), (1, .int xL1), (3, .int xL3), (4, .int xL4)]) rfl ?_
          refine r_pick [1, 2, 0, 3, 4] (lo' := [(0, .ref pL0), (1, .int xL1), (2, .int xL4), (3, .int xL3), (4, .int xL4)]) rfl ?_
          exact hj13 _ h
theorem t_X10_gossip {G : Gx} {d : Nat} (hl : G.1.stackTraces = false) (hd : 7 ≤ d) {σ : Sto} {a0 : Nat} {xa1 : Int32} {r : (Int32 × Sto)} (h : F_X10_gossip σ a0 xa1 = some r) : Mi G d m_X10_gossip 10 a0 [.int xa1] σ (.inl (some (.int r.1))) r.2 := by
  rw [F_X10_gossip] at h
  obtain ⟨hg, h⟩ := chk_some h
  refine ⟨J.toMt (lo := [(0, .ref a0), (1, .int xa1)]) pn_RX10 rfl hl (Nat.le_of_ble_eq_true rfl) rfl ?_, hg⟩
  refine r_aload_n (dc_X10_gossip 0 rfl) rfl rfl ?_
  refine r_iconst (dc_X10_gossip 1 rfl) kiconst_0 ?_
  obtain ⟨s1, e0, h⟩ := Option.bind_eq_some_iff.mp h
  refine r_put (dc_X10_gossip 2 rfl) pl_RX10_1 rfl e0 ?_
  refine r_iload_n (dc_X10_gossip 3 rfl) rfl rfl ?_
  refine r_i2l (dc_X10_gossip 4 rfl) ?_
  refine r_lconst (dc_X10_gossip 5 rfl) klconst_0 ?_
  refine r_ldc2 (dc_X10_gossip 6 rfl) ck_RX10_106 ?_
  obtain ⟨x2, e0, h⟩ := Option.bind_eq_some_iff.mp h
  refine r_callS (dc_X10_gossip 7 rfl) ms_X10_isIn ml_RX10_89 (As := [.long xa1.toInt64, .long (0 : Int64), .long (3 : Int64)]) (t_X10_isIn (d := d - 1) hl (by omega) e0) (by omega) rfl (Nat.le_of_ble_eq_true rfl) ?_
  refine r_if_ne (dc_X10_gossip 8 rfl) (tgt := 23) (by decide) (fun c0 => ?_) (fun c0 => ?_)
  · rw [if_neg c0] at h
    refine r_aload_n (dc_X10_gossip 13 rfl) rfl rfl ?_
    obtain ⟨s3, e0, h⟩ := Option.bind_eq_some_iff.mp h
    refine r_callV (dc_X10_gossip 14 rfl) mv_X10_onPaper ml_RX10_345 (As := []) (t_X10_onPaper (d := d - 1) hl (by omega) e0) (by omega) rfl (Nat.le_of_ble_eq_true rfl) ?_
    refine r_aload_n (dc_X10_gossip 15 rfl) rfl rfl ?_
    refine r_iconst (dc_X10_gossip 16 rfl) kiconst_0 ?_
    obtain ⟨s4, e0, h⟩ := Option.bind_eq_some_iff.mp h
    refine r_put (dc_X10_gossip 17 rfl) pl_RX10_339 rfl e0 ?_
    refine r_aload_n (dc_X10_gossip 18 rfl) rfl rfl ?_
    refine r_iconst (dc_X10_gossip 19 rfl) kiconst_0 ?_
    obtain ⟨s5, e0, h⟩ := Option.bind_eq_some_iff.mp h
    refine r_put (dc_X10_gossip 20 rfl) pl_RX10_342 rfl e0 ?_
    refine r_aload_n (dc_X10_gossip 21 rfl) rfl rfl ?_
    obtain ⟨x6, e0, h⟩ := Option.bind_eq_some_iff.mp h
    refine r_callV (dc_X10_gossip 22 rfl) mv_X10_areLike ml_RX10_348 (As := []) (t_X10_areLike (d := d - 1) hl (by omega) e0) (by omega) rfl (Nat.le_of_ble_eq_true rfl) ?_
    refine jn_elim h (Q := fun (j : Int32 → Option (Int32 × Sto)) => ∀ (x8 : Int32), j x8 = some r → J G d m_X10_gossip 49 [(0, .ref a0), (1, .int xa1)] [.int x8] s5 (.inl (some (.int r.1))) r.2) ?_ (fun j7 hj7 h => ?_)
    · intro x8 h
      refine r_istore_n (dc_X10_gossip 27 rfl) rfl (by decide) (lo' := [(2, .int x8), (0, .ref a0), (1, .int xa1)]) rfl ?_
      refine r_aload_n (dc_X10_gossip 28 rfl) rfl rfl ?_
      obtain ⟨x9, e0, h⟩ := Option.bind_eq_some_iff.mp h
      refine r_callV (dc_X10_gossip 29 rfl) mv_X10_areEmpty ml_RX10_352 (As := []) (t_X10_areEmpty (d := d - 1) hl (by omega) e0) (by omega) rfl (Nat.le_of_ble_eq_true rfl) ?_
      refine jn_elim h (Q := fun (j : Int32 → Option (Int32 × Sto)) => ∀ (x11 : Int32), j x11 = some r → J G d m_X10_gossip 62 [(0, .ref a0), (1, .int xa1), (2, .int x8)] [.int x11] s5 (.inl (some (.int r.1))) r.2) ?_ (fun j10 hj10 h => ?_)
      · intro x11 h
        refine r_istore_n (dc_X10_gossip 34 rfl) rfl (by decide) (lo' := [(3, .int x11), (0, .ref a0), (1, .int xa1), (2, .int x8)]) rfl ?_
        refine r_iconst (dc_X10_gossip 35 rfl) kiconst_1 ?_
        refine r_istore (dc_X10_gossip 36 rfl) (by decide) (lo' := [(4, .int (1 : Int32)), (3, .int x11), (0, .ref a0), (1, .int xa1), (2, .int x8)]) rfl ?_
        refine r_pick [2, 3, 4, 1, 0] (lo' := [(0, .ref a0), (1, .int xa1), (2, .int x8), (3, .int x11), (4, .int (1 : Int32))]) rfl ?_
        refine l_X10_gossip_L66 hl hd (hk113 := ?_) fu _ _ _ _ h
        · intro x17 x18 s19 h
          refine r_aload_n (dc_X10_gossip 60 rfl) rfl rfl ?_
          refine r_iconst (dc_X10_gossip 61 rfl) kiconst_0 ?_
          obtain ⟨s20, e0, h⟩ := Option.bind_eq_some_iff.mp h
          refine r_put (dc_X10_gossip 62 rfl) pl_RX10_59 rfl e0 ?_
          refine r_iload_n (dc_X10_gossip 63 rfl) rfl rfl ?_
          refine r_if_ne (dc_X10_gossip 64 rfl) (tgt := 126) (by decide) (fun c0 => ?_) (fun c0 => ?_)
          · rw [if_neg c0] at h
            refine r_iload_n (dc_X10_gossip 67 rfl) rfl rfl ?_
            refine r_iconst (dc_X10_gossip 68 rfl) kiconst_1 ?_
            refine r_icmp_ne (dc_X10_gossip 69 rfl) (tgt := 135) (by decide) (fun c0 => ?_) (fun c0 => ?_)
            · rw [if_neg c0] at h
              refine r_iload_n (dc_X10_gossip 72 rfl) rfl rfl ?_
              refine r_iconst (dc_X10_gossip 73 rfl) kiconst_2 ?_
              refine r_icmp_ne (dc_X10_gossip 74 rfl) (tgt := 147) (by decide) (fun c0 => ?_) (fun c0 => ?_)
              · rw [if_neg c0] at h
                refine r_aload_n (dc_X10_gossip 78 rfl) rfl rfl ?_
                obtain ⟨x21, e0, h⟩ := Option.bind_eq_some_iff.mp h
                refine r_getI (dc_X10_gossip 79 rfl) fl_RX10_342 e0 ?_
                cases h
                exact r_ireturn (dc_X10_gossip 80 rfl) rfl
              · rw [if_pos c0] at h
                refine r_aload_n (dc_X10_gossip 75 rfl) rfl rfl ?_
                obtain ⟨x22, e0, h⟩ := Option.bind_eq_some_iff.mp h
                refine r_getI (dc_X10_gossip 76 rfl) fl_RX10_339 e0 ?_
                refine r_goto (dc_X10_gossip 77 rfl) (tgt := 151) (by decide) ?_
                cases h
                exact r_ireturn (dc_X10_gossip 80 rfl) rfl
            · rw [if_pos c0] at h
              refine r_iload_n (dc_X10_gossip 70 rfl) rfl rfl ?_
              refine r_goto (dc_X10_gossip 71 rfl) (tgt := 151) (by decide) ?_
              cases h
              exact r_ireturn (dc_X10_gossip 80 rfl) rfl
          · rw [if_pos c0] at h
            refine r_iload_n (dc_X10_gossip 65 rfl) rfl rfl ?_
            refine r_goto (dc_X10_gossip 66 rfl) (tgt := 151) (by decide) ?_
            cases h
            exact r_ireturn (dc_X10_gossip 80 rfl) rfl
      refine r_if_eq (dc_X10_gossip 30 rfl) (tgt := 61) (by decide) (fun c0 => ?_) (fun c0 => ?_)
      · rw [if_pos c0] at h
        refine r_iconst (dc_X10_gossip 33 rfl) kiconst_m1 ?_
        refine r_pick [1, 2, 0] (lo' := [(0, .ref a0), (1, .int xa1), (2, .int x8)]) rfl ?_
        exact hj10 _ h
      · rw [if_neg c0] at h
        refine r_iconst (dc_X10_gossip 31 rfl) kiconst_0 ?_
        refine r_goto (dc_X10_gossip 32 rfl) (tgt := 62) (by decide) ?_
        refine r_pick [1, 2, 0] (lo' := [(0, .ref a0), (1, .int xa1), (2, .int x8)]) rfl ?_
        exact hj10 _ h
    refine r_if_eq (dc_X10_gossip 23 rfl) (tgt := 48) (by decide) (fun c0 => ?_) (fun c0 => ?_)
    · rw [if_pos c0] at h
      refine r_iconst (dc_X10_gossip 26 rfl) kiconst_m1 ?_
      exact hj7 _ h
    · rw [if_neg c0] at h
      refine r_iconst (dc_X10_gossip 24 rfl) kiconst_0 ?_
      refine r_goto (dc_X10_gossip 25 rfl) (tgt := 49) (by decide) ?_
      exact hj7 _ h
  · rw [if_pos c0] at h
    refine r_aload_n (dc_X10_gossip 9 rfl) rfl rfl ?_
    refine r_iconst (dc_X10_gossip 10 rfl) kiconst_1 ?_
    obtain ⟨x24, s23, e0, h⟩ := wb_some h
    refine r_callV (dc_X10_gossip 11 rfl) mv_X10_fails ml_RX10_101 (As := [.int (1 : Int32)]) (t_X10_fails (d := d - 1) hl (by omega) e0) (by omega) rfl (Nat.le_of_ble_eq_true rfl) ?_
    cases h
    exact r_ireturn (dc_X10_gossip 12 rfl) rfl
theorem t_X10_toldOnPaper {G : Gx} {d : Nat} (hl : G.1.stackTraces = false) (hd : 6 ≤ d) {σ : Sto} {a0 : Nat} {xa1 : Int32} {xa2 : Int32} {r : (Int32 × Sto)} (h : F_X10_toldOnPaper σ a0 xa1 xa2 = some r) : Mi G d m_X10_toldOnPaper 10 a0 [.int xa1, .int xa2] σ (.inl (some (.int r.1))) r.2 := by
  rw [F_X10_toldOnPaper] at h
  obtain ⟨hg, h⟩ := chk_some h
  refine ⟨J.toMt (lo := [(0, .ref a0), (1, .int xa1), (2, .int xa2)]) pn_RX10 rfl hl (Nat.le_of_ble_eq_true rfl) rfl ?_, hg⟩
  refine r_iload_n (dc_X10_toldOnPaper 0 rfl) rfl rfl ?_
  refine jn_elim h (Q := fun (j : Int32 → Sto → Option (Int32 × Sto)) => ∀ (x2 : Int32) (s3 : Sto), j x2 s3 = some r → J G d m_X10_toldOnPaper 42 [(0, .ref a0)] [.int x2] s3 (.inl (some (.int r.1))) r.2) ?_ (fun j1 hj1 h => ?_)
  · intro x2 s3 h
    refine r_istore_n (dc_X10_toldOnPaper 22 rfl) rfl (by decide) (lo' := [(3, .int x2), (0, .ref a0)]) rfl ?_
    refine r_aload_n (dc_X10_toldOnPaper 23 rfl) rfl rfl ?_
    refine r_iconst (dc_X10_toldOnPaper 24 rfl) kiconst_0 ?_
    obtain ⟨s4, e0, h⟩ := Option.bind_eq_some_iff.mp h
    refine r_put (dc_X10_toldOnPaper 25 rfl) pl_RX10_59 rfl e0 ?_
    refine r_iload_n (dc_X10_toldOnPaper 26 rfl) rfl rfl ?_
    cases h
    exact r_ireturn (dc_X10_toldOnPaper 27 rfl) rfl
  refine r_if_ne (dc_X10_toldOnPaper 1 rfl) (tgt := 12) (by decide) (fun c0 => ?_) (fun c0 => ?_)
  · rw [if_neg c0] at h
    refine r_iload_n (dc_X10_toldOnPaper 6 rfl) rfl rfl ?_
    refine r_iconst (dc_X10_toldOnPaper 7 rfl) kiconst_1 ?_
    refine r_icmp_ne (dc_X10_toldOnPaper 8 rfl) (tgt := 25) (by decide) (fun c0 => ?_) (fun c0 => ?_)
    · rw [if_neg c0] at h
      refine r_iload_n (dc_X10_toldOnPaper 13 rfl) rfl rfl ?_
      refine r_iconst (dc_X10_toldOnPaper 14 rfl) kiconst_2 ?_
      refine r_icmp_ne (dc_X10_toldOnPaper 15 rfl) (tgt := 38) (by decide) (fun c0 => ?_) (fun c0 => ?_)
      · rw [if_neg c0] at h
        refine r_aload_n (dc_X10_toldOnPaper 20 rfl) rfl rfl ?_
        obtain ⟨x5, e0, h⟩ := Option.bind_eq_some_iff.mp h
        refine r_callV (dc_X10_toldOnPaper 21 rfl) mv_X10_overstatedAll ml_RX10_358 (As := []) (t_X10_overstatedAll (d := d - 1) hl (by omega) e0) (by omega) rfl (Nat.le_of_ble_eq_true rfl) ?_
        refine r_pick [0] (lo' := [(0, .ref a0)]) rfl ?_
        exact hj1 _ _ h
      · rw [if_pos c0] at h
        refine r_aload_n (dc_X10_toldOnPaper 16 rfl) rfl rfl ?_
        refine r_iload_n (dc_X10_toldOnPaper 17 rfl) rfl rfl ?_
        obtain ⟨x6, e0, h⟩ := Option.bind_eq_some_iff.mp h
        refine r_callV (dc_X10_toldOnPaper 18 rfl) mv_X10_overstatedOf ml_RX10_278 (As := [.int xa1]) (t_X10_overstatedOf (d := d - 1) hl (by omega) e0) (by omega) rfl (Nat.le_of_ble_eq_true rfl) ?_
        refine r_goto (dc_X10_toldOnPaper 19 rfl) (tgt := 42) (by decide) ?_
        refine r_pick [0] (lo' := [(0, .ref a0)]) rfl ?_
        exact hj1 _ _ h
    · rw [if_pos c0] at h
      refine r_aload_n (dc_X10_toldOnPaper 9 rfl) rfl rfl ?_
      refine r_iload_n (dc_X10_toldOnPaper 10 rfl) rfl rfl ?_
      obtain ⟨x8, s7, e0, h⟩ := wb_some h
      refine r_callV (dc_X10_toldOnPaper 11 rfl) mv_X10_lostTo ml_RX10_293 (As := [.int xa1]) (t_X10_lostTo (d := d - 1) hl (by omega) e0) (by omega) rfl (Nat.le_of_ble_eq_true rfl) ?_
      refine r_goto (dc_X10_toldOnPaper 12 rfl) (tgt := 42) (by decide) ?_
      refine r_pick [0] (lo' := [(0, .ref a0)]) rfl ?_
      exact hj1 _ _ h
  · rw [if_pos c0] at h
    refine r_aload_n (dc_X10_toldOnPaper 2 rfl) rfl rfl ?_
    refine r_iload_n (dc_X10_toldOnPaper 3 rfl) rfl rfl ?_
    obtain ⟨x9, e0, h⟩ := Option.bind_eq_some_iff.mp h
    refine r_callV (dc_X10_toldOnPaper 4 rfl) mv_X10_hasMany ml_RX10_239 (As := [.int xa1]) (t_X10_hasMany (d := d - 1) hl (by omega) e0) (by omega) rfl (Nat.le_of_ble_eq_true rfl) ?_
    refine r_goto (dc_X10_toldOnPaper 5 rfl) (tgt := 42) (by decide) ?_
    refine r_pick [0] (lo' := [(0, .ref a0)]) rfl ?_
    exact hj1 _ _ h
theorem t_X10_falling {G : Gx} {d : Nat} (hl : G.1.stackTraces = false) (hd : 7 ≤ d) {σ : Sto} {a0 : Nat} {xa1 : Int32} {xa2 : Int32} {r : (Int32 × Sto)} (h : F_X10_falling σ a0 xa1 xa2 = some r) : Mi G d m_X10_falling 10 a0 [.int xa1, .int xa2] σ (.inl (some (.int r.1))) r.2 := by
  rw [F_X10_falling] at h
  obtain ⟨hg, h⟩ := chk_some h
  refine ⟨J.toMt (lo := [(0, .ref a0), (1, .int xa1), (2, .int xa2)]) pn_RX10 rfl hl (Nat.le_of_ble_eq_true rfl) rfl ?_, hg⟩
  refine r_aload_n (dc_X10_falling 0 rfl) rfl rfl ?_
  refine r_iconst (dc_X10_falling 1 rfl) kiconst_0 ?_
  obtain ⟨s1, e0, h⟩ := Option.bind_eq_some_iff.mp h
  refine r_put (dc_X10_falling 2 rfl) pl_RX10_1 rfl e0 ?_
  refine r_aload_n (dc_X10_falling 3 rfl) rfl rfl ?_
  refine r_iload_n (dc_X10_falling 4 rfl) rfl rfl ?_
  obtain ⟨x2, e0, h⟩ := Option.bind_eq_some_iff.mp h
  refine r_callV (dc_X10_falling 5 rfl) mv_X10_isSite ml_RX10_93 (As := [.int xa1]) (t_X10_isSite (d := d - 1) hl (by omega) e0) (by omega) rfl (Nat.le_of_ble_eq_true rfl) ?_
  refine r_if_ne (dc_X10_falling 6 rfl) (tgt := 19) (by decide) (fun c0 => ?_) (fun c0 => ?_)
  · rw [if_neg c0] at h
    refine r_iload_n (dc_X10_falling 11 rfl) rfl rfl ?_
    refine r_i2l (dc_X10_falling 12 rfl) ?_
    refine r_lconst (dc_X10_falling 13 rfl) klconst_0 ?_
    refine r_ldc2 (dc_X10_falling 14 rfl) ck_RX10_106 ?_
    obtain ⟨x3, e0, h⟩ := Option.bind_eq_some_iff.mp h
    refine r_callS (dc_X10_falling 15 rfl) ms_X10_isIn ml_RX10_89 (As := [.long xa2.toInt64, .long (0 : Int64), .long (3 : Int64)]) (t_X10_isIn (d := d - 1) hl (by omega) e0) (by omega) rfl (Nat.le_of_ble_eq_true rfl) ?_
    refine r_if_ne (dc_X10_falling 16 rfl) (tgt := 37) (by decide) (fun c0 => ?_) (fun c0 => ?_)
    · rw [if_neg c0] at h
      refine r_aload_n (dc_X10_falling 21 rfl) rfl rfl ?_
      obtain ⟨s4, e0, h⟩ := Option.bind_eq_some_iff.mp h
      refine r_callV (dc_X10_falling 22 rfl) mv_X10_onPaper ml_RX10_345 (As := []) (t_X10_onPaper (d := d - 1) hl (by omega) e0) (by omega) rfl (Nat.le_of_ble_eq_true rfl) ?_
      refine r_aload_n (dc_X10_falling 23 rfl) rfl rfl ?_
      refine r_iload_n (dc_X10_falling 24 rfl) rfl rfl ?_
      obtain ⟨s5, e0, h⟩ := Option.bind_eq_some_iff.mp h
      refine r_callV (dc_X10_falling 25 rfl) mv_X10_falls ml_RX10_242 (As := [.int xa1]) (t_X10_falls (d := d - 1) hl (by omega) e0) (by omega) rfl (Nat.le_of_ble_eq_true rfl) ?_
      refine r_aload_n (dc_X10_falling 26 rfl) rfl rfl ?_
      refine r_iload_n (dc_X10_falling 27 rfl) rfl rfl ?_
      refine r_iload_n (dc_X10_falling 28 rfl) rfl rfl ?_
      obtain ⟨x7, s6, e0, h⟩ := wb_some h
      refine r_callV (dc_X10_falling 29 rfl) mv_X10_toldOnPaper ml_RX10_362 (As := [.int xa1, .int xa2]) (t_X10_toldOnPaper (d := d - 1) hl (by omega) e0) (by omega) rfl (Nat.le_of_ble_eq_true rfl) ?_
      cases h
      exact r_ireturn (dc_X10_falling 30 rfl) rfl
    · rw [if_pos c0] at h
      refine r_aload_n (dc_X10_falling 17 rfl) rfl rfl ?_
      refine r_iconst (dc_X10_falling 18 rfl) kiconst_2 ?_
      obtain ⟨x9, s8, e0, h⟩ := wb_some h
      refine r_callV (dc_X10_falling 19 rfl) mv_X10_fails ml_RX10_101 (As := [.int (2 : Int32)]) (t_X10_fails (d := d - 1) hl (by omega) e0) (by omega) rfl (Nat.le_of_ble_eq_true rfl) ?_
      cases h
      exact r_ireturn (dc_X10_falling 20 rfl) rfl
  · rw [if_pos c0] at h
    refine r_aload_n (dc_X10_falling 7 rfl) rfl rfl ?_
    refine r_iconst (dc_X10_falling 8 rfl) kiconst_1 ?_
    obtain ⟨x11, s10, e0, h⟩ := wb_some h
    refine r_callV (dc_X10_falling 9 rfl) mv_X10_fails ml_RX10_101 (As := [.int (1 : Int32)]) (t_X10_fails (d := d - 1) hl (by omega) e0) (by omega) rfl (Nat.le_of_ble_eq_true rfl) ?_
    cases h
    exact r_ireturn (dc_X10_falling 10 rfl) rfl
theorem t_X10_joiningNow {G : Gx} {d : Nat} (hl : G.1.stackTraces = false) (hd : 7 ≤ d) {σ : Sto} {a0 : Nat} {xa1 : Int32} {xa2 : Int32} {xa3 : Int32} {r : (Int32 × Sto)} (h : F_X10_joiningNow σ a0 xa1 xa2 xa3 = some r) : Mi G d m_X10_joiningNow 10 a0 [.int xa1, .int xa2, .int xa3] σ (.inl (some (.int r.1))) r.2 := by
  rw [F_X10_joiningNow] at h
  obtain ⟨hg, h⟩ := chk_some h
  refine ⟨J.toMt (lo := [(0, .ref a0), (1, .int xa1), (2, .int xa2), (3, .int xa3)]) pn_RX10 rfl hl (Nat.le_of_ble_eq_true rfl) rfl ?_, hg⟩
  refine r_aload_n (dc_X10_joiningNow 0 rfl) rfl rfl ?_
  obtain ⟨s1, e0, h⟩ := Option.bind_eq_some_iff.mp h
  refine r_callV (dc_X10_joiningNow 1 rfl) mv_X10_onPaper ml_RX10_345 (As := []) (t_X10_onPaper (d := d - 1) hl (by omega) e0) (by omega) rfl (Nat.le_of_ble_eq_true rfl) ?_
  refine r_aload_n (dc_X10_joiningNow 2 rfl) rfl rfl ?_
  refine r_iload_n (dc_X10_joiningNow 3 rfl) rfl rfl ?_
  refine r_iload_n (dc_X10_joiningNow 4 rfl) rfl rfl ?_
  obtain ⟨s2, e0, h⟩ := Option.bind_eq_some_iff.mp h
  refine r_callV (dc_X10_joiningNow 5 rfl) mv_X10_joins ml_RX10_245 (As := [.int xa1, .int xa2]) (t_X10_joins (d := d - 1) hl (by omega) e0) (by omega) rfl (Nat.le_of_ble_eq_true rfl) ?_
  refine r_aload_n (dc_X10_joiningNow 6 rfl) rfl rfl ?_
  refine r_iload_n (dc_X10_joiningNow 7 rfl) rfl rfl ?_
  refine r_iload_n (dc_X10_joiningNow 8 rfl) rfl rfl ?_
  obtain ⟨x4, s3, e0, h⟩ := wb_some h
  refine r_callV (dc_X10_joiningNow 9 rfl) mv_X10_toldOnPaper ml_RX10_362 (As := [.int xa1, .int xa3]) (t_X10_toldOnPaper (d := d - 1) hl (by omega) e0) (by omega) rfl (Nat.le_of_ble_eq_true rfl) ?_
  cases h
  exact r_ireturn (dc_X10_joiningNow 10 rfl) rfl
theorem t_X10_joining {G : Gx} {d : Nat} (hl : G.1.stackTraces = false) (hd : 8 ≤ d) {σ : Sto} {a0 : Nat} {xa1 : Int32} {xa2 : Int32} {xa3 : Int32} {r : (Int32 × Sto)} (h : F_X10_joining σ a0 xa1 xa2 xa3 = some r) : Mi G d m_X10_joining 10 a0 [.int xa1, .int xa2, .int xa3] σ (.inl (some (.int r.1))) r.2 := by
  rw [F_X10_joining] at h
  obtain ⟨hg, h⟩ := chk_some h
  refine ⟨J.toMt (lo := [(0, .ref a0), (1, .int xa1), (2, .int xa2), (3, .int xa3)]) pn_RX10 rfl hl (Nat.le_of_ble_eq_true rfl) rfl ?_, hg⟩
  refine r_aload_n (dc_X10_joining 0 rfl) rfl rfl ?_
  refine r_iconst (dc_X10_joining 1 rfl) kiconst_0 ?_
  obtain ⟨s1, e0, h⟩ := Option.bind_eq_some_iff.mp h
  refine r_put (dc_X10_joining 2 rfl) pl_RX10_1 rfl e0 ?_
  refine r_aload_n (dc_X10_joining 3 rfl) rfl rfl ?_
  refine r_iload_n (dc_X10_joining 4 rfl) rfl rfl ?_
  refine r_iload_n (dc_X10_joining 5 rfl) rfl rfl ?_
  obtain ⟨x2, e0, h⟩ := Option.bind_eq_some_iff.mp h
  refine r_callV (dc_X10_joining 6 rfl) mv_X10_areTwo ml_RX10_211 (As := [.int xa1, .int xa2]) (t_X10_areTwo (d := d - 1) hl (by omega) e0) (by omega) rfl (Nat.le_of_ble_eq_true rfl) ?_
  refine r_if_ne (dc_X10_joining 7 rfl) (tgt := 20) (by decide) (fun c0 => ?_) (fun c0 => ?_)
  · rw [if_neg c0] at h
    refine r_iload_n (dc_X10_joining 12 rfl) rfl rfl ?_
    refine r_i2l (dc_X10_joining 13 rfl) ?_
    refine r_lconst (dc_X10_joining 14 rfl) klconst_0 ?_
    refine r_ldc2 (dc_X10_joining 15 rfl) ck_RX10_106 ?_
    obtain ⟨x3, e0, h⟩ := Option.bind_eq_some_iff.mp h
    refine r_callS (dc_X10_joining 16 rfl) ms_X10_isIn ml_RX10_89 (As := [.long xa3.toInt64, .long (0 : Int64), .long (3 : Int64)]) (t_X10_isIn (d := d - 1) hl (by omega) e0) (by omega) rfl (Nat.le_of_ble_eq_true rfl) ?_
    refine r_if_eq (dc_X10_joining 17 rfl) (tgt := 42) (by decide) (fun c0 => ?_) (fun c0 => ?_)
    · rw [if_pos c0] at h
      refine r_aload_n (dc_X10_joining 24 rfl) rfl rfl ?_
      refine r_iconst (dc_X10_joining 25 rfl) kiconst_2 ?_
      obtain ⟨x5, s4, e0, h⟩ := wb_some h
      refine r_callV (dc_X10_joining 26 rfl) mv_X10_fails ml_RX10_101 (As := [.int (2 : Int32)]) (t_X10_fails (d := d - 1) hl (by omega) e0) (by omega) rfl (Nat.le_of_ble_eq_true rfl) ?_
      cases h
      exact r_ireturn (dc_X10_joining 27 rfl) rfl
    · rw [if_neg c0] at h
      refine r_aload_n (dc_X10_joining 18 rfl) rfl rfl ?_
      refine r_iload_n (dc_X10_joining 19 rfl) rfl rfl ?_
      refine r_iload_n (dc_X10_joining 20 rfl) rfl rfl ?_
      refine r_iload_n (dc_X10_joining 21 rfl) rfl rfl ?_
      obtain ⟨x7, s6, e0, h⟩ := wb_some h
      refine r_callV (dc_X10_joining 22 rfl) mv_X10_joiningNow ml_RX10_365 (As := [.int xa1, .int xa2, .int xa3]) (t_X10_joiningNow (d := d - 1) hl (by omega) e0) (by omega) rfl (Nat.le_of_ble_eq_true rfl) ?_
      refine r_goto (dc_X10_joining 23 rfl) (tgt := 47) (by decide) ?_
      cases h
      exact r_ireturn (dc_X10_joining 27 rfl) rfl
  · rw [if_pos c0] at h
    refine r_aload_n (dc_X10_joining 8 rfl) rfl rfl ?_
    refine r_iconst (dc_X10_joining 9 rfl) kiconst_1 ?_
    obtain ⟨x9, s8, e0, h⟩ := wb_some h
    refine r_callV (dc_X10_joining 10 rfl) mv_X10_fails ml_RX10_101 (As := [.int (1 : Int32)]) (t_X10_fails (d := d - 1) hl (by omega) e0) (by omega) rfl (Nat.le_of_ble_eq_true rfl) ?_
    cases h
    exact r_ireturn (dc_X10_joining 11 rfl) rfl
