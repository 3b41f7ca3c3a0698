theorem t_X10_whyNot {G : Gx} {d : Nat} (hl : G.1.stackTraces = false) (hd : 3 ≤ d) {σ : Sto} {a0 : Nat} {xa1 : Int32} {xa2 : Int32} {xa3 : Int32} {r : (Int32 × Sto)} (h : F_X10_whyNot σ a0 xa1 xa2 xa3 = some r) : Mi G d m_X10_whyNot 10 a0 [.int xa1, .int xa2, .int xa3] σ (.inl (some (.int r.1))) r.2 := by
  rw [F_X10_whyNot] at h
  obtain ⟨hg, h⟩ := chk_some h
  refine ⟨J.toMt (lo := [(0, .ref a0), (1, .int xa1), (2, .int xa2), (3, .int xa3)]) pn_RX10 rfl hl (Nat.le_of_ble_eq_true rfl) rfl ?_, hg⟩
  refine r_aload_n (dc_X10_whyNot 0 rfl) rfl rfl ?_
  refine r_iconst (dc_X10_whyNot 1 rfl) kiconst_0 ?_
  obtain ⟨s1, e0, h⟩ := Option.bind_eq_some_iff.mp h
  refine r_put (dc_X10_whyNot 2 rfl) pl_RX10_59 rfl e0 ?_
  refine r_aload_n (dc_X10_whyNot 3 rfl) rfl rfl ?_
  refine r_iload_n (dc_X10_whyNot 4 rfl) rfl rfl ?_
  refine r_iload_n (dc_X10_whyNot 5 rfl) rfl rfl ?_
  obtain ⟨x2, e0, h⟩ := Option.bind_eq_some_iff.mp h
  refine r_callV (dc_X10_whyNot 6 rfl) mv_X10_areTwo ml_RX10_211 (As := [.int xa1, .int xa2]) (t_X10_areTwo (d := d - 1) hl (by omega) e0) (by omega) rfl (Nat.le_of_ble_eq_true rfl) ?_
  refine r_if_ne (dc_X10_whyNot 7 rfl) (tgt := 18) (by decide) (fun c0 => ?_) (fun c0 => ?_)
  · rw [if_neg c0] at h
    refine r_iload_n (dc_X10_whyNot 10 rfl) rfl rfl ?_
    refine r_i2l (dc_X10_whyNot 11 rfl) ?_
    refine r_lconst (dc_X10_whyNot 12 rfl) klconst_0 ?_
    refine r_aload_n (dc_X10_whyNot 13 rfl) rfl rfl ?_
    refine r_iload_n (dc_X10_whyNot 14 rfl) rfl rfl ?_
    refine r_iload_n (dc_X10_whyNot 15 rfl) rfl rfl ?_
    obtain ⟨x3, e0, h⟩ := Option.bind_eq_some_iff.mp h
    refine r_callV (dc_X10_whyNot 16 rfl) mv_X10_waits ml_RX10_188 (As := [.int xa1, .int xa2]) (t_X10_waits (d := d - 1) hl (by omega) e0) (by omega) rfl (Nat.le_of_ble_eq_true rfl) ?_
    refine r_iconst (dc_X10_whyNot 17 rfl) kiconst_1 ?_
    refine r_isub (dc_X10_whyNot 18 rfl) ?_
    refine r_i2l (dc_X10_whyNot 19 rfl) ?_
    obtain ⟨x4, e0, h⟩ := Option.bind_eq_some_iff.mp h
    refine r_callS (dc_X10_whyNot 20 rfl) ms_X10_isIn ml_RX10_89 (As := [.long xa3.toInt64, .long (0 : Int64), .long (x3 - (1 : Int32)).toInt64]) (t_X10_isIn (d := d - 1) hl (by omega) e0) (by omega) rfl (Nat.le_of_ble_eq_true rfl) ?_
    refine r_if_ne (dc_X10_whyNot 21 rfl) (tgt := 40) (by decide) (fun c0 => ?_) (fun c0 => ?_)
    · rw [if_neg c0] at h
      refine r_iconst (dc_X10_whyNot 24 rfl) kiconst_0 ?_
      cases h
      exact r_ireturn (dc_X10_whyNot 25 rfl) rfl
    · rw [if_pos c0] at h
      refine r_iconst (dc_X10_whyNot 22 rfl) kiconst_2 ?_
      refine r_goto (dc_X10_whyNot 23 rfl) (tgt := 41) (by decide) ?_
      cases h
      exact r_ireturn (dc_X10_whyNot 25 rfl) rfl
  · rw [if_pos c0] at h
    refine r_iconst (dc_X10_whyNot 8 rfl) kiconst_1 ?_
    refine r_goto (dc_X10_whyNot 9 rfl) (tgt := 41) (by decide) ?_
    cases h
    exact r_ireturn (dc_X10_whyNot 25 rfl) rfl
theorem t_X10_come {G : Gx} {d : Nat} (hl : G.1.stackTraces = false) (hd : 7 ≤ d) {σ : Sto} {a0 : Nat} {xa1 : Int32} {xa2 : Int32} {xa3 : Int32} {r : (Int32 × Sto)} (h : F_X10_come σ a0 xa1 xa2 xa3 = some r) : Mi G d m_X10_come 10 a0 [.int xa1, .int xa2, .int xa3] σ (.inl (some (.int r.1))) r.2 := by
  rw [F_X10_come] at h
  obtain ⟨hg, h⟩ := chk_some h
  refine ⟨J.toMt (lo := [(0, .ref a0), (1, .int xa1), (2, .int xa2), (3, .int xa3)]) pn_RX10 rfl hl (Nat.le_of_ble_eq_true rfl) rfl ?_, hg⟩
  refine r_aload_n (dc_X10_come 0 rfl) rfl rfl ?_
  refine r_iconst (dc_X10_come 1 rfl) kiconst_0 ?_
  obtain ⟨s1, e0, h⟩ := Option.bind_eq_some_iff.mp h
  refine r_put (dc_X10_come 2 rfl) pl_RX10_1 rfl e0 ?_
  refine r_aload_n (dc_X10_come 3 rfl) rfl rfl ?_
  refine r_iload_n (dc_X10_come 4 rfl) rfl rfl ?_
  refine r_iload_n (dc_X10_come 5 rfl) rfl rfl ?_
  refine r_iload_n (dc_X10_come 6 rfl) rfl rfl ?_
  obtain ⟨x3, s2, e0, h⟩ := wb_some h
  refine r_callV (dc_X10_come 7 rfl) mv_X10_whyNot ml_RX10_220 (As := [.int xa1, .int xa2, .int xa3]) (t_X10_whyNot (d := d - 1) hl (by omega) e0) (by omega) rfl (Nat.le_of_ble_eq_true rfl) ?_
  refine r_istore (dc_X10_come 8 rfl) (by decide) (lo' := [(4, .int x3), (0, .ref a0), (1, .int xa1), (2, .int xa2), (3, .int xa3)]) rfl ?_
  refine r_iload (dc_X10_come 9 rfl) rfl ?_
  refine jn_elim h (Q := fun (j : Int32 → Option (Int32 × Sto)) => ∀ (x5 : Int32), j x5 = some r → J G d m_X10_come 31 [(0, .ref a0), (1, .int xa1), (2, .int xa2), (3, .int xa3), (4, .int x5)] [] s2 (.inl (some (.int r.1))) r.2) ?_ (fun j4 hj4 h => ?_)
  · intro x5 h
    refine r_iload (dc_X10_come 18 rfl) rfl ?_
    refine r_if_eq (dc_X10_come 19 rfl) (tgt := 45) (by decide) (fun c0 => ?_) (fun c0 => ?_)
    · rw [if_pos c0] at h
      refine r_aload_n (dc_X10_come 24 rfl) rfl rfl ?_
      refine r_iload_n (dc_X10_come 25 rfl) rfl rfl ?_
      refine r_iload_n (dc_X10_come 26 rfl) rfl rfl ?_
      refine r_iload_n (dc_X10_come 27 rfl) rfl rfl ?_
      obtain ⟨x7, s6, e0, h⟩ := wb_some h
      refine r_callV (dc_X10_come 28 rfl) mv_X10_comesNow ml_RX10_223 (As := [.int xa1, .int xa2, .int xa3]) (t_X10_comesNow (d := d - 1) hl (by omega) e0) (by omega) rfl (Nat.le_of_ble_eq_true rfl) ?_
      cases h
      exact r_ireturn (dc_X10_come 29 rfl) rfl
    · rw [if_neg c0] at h
      refine r_aload_n (dc_X10_come 20 rfl) rfl rfl ?_
      refine r_iload (dc_X10_come 21 rfl) rfl ?_
      obtain ⟨x9, s8, e0, h⟩ := wb_some h
      refine r_callV (dc_X10_come 22 rfl) mv_X10_fails ml_RX10_101 (As := [.int x5]) (t_X10_fails (d := d - 1) hl (by omega) e0) (by omega) rfl (Nat.le_of_ble_eq_true rfl) ?_
      refine r_goto (dc_X10_come 23 rfl) (tgt := 52) (by decide) ?_
      cases h
      exact r_ireturn (dc_X10_come 29 rfl) rfl
  refine r_if_ne (dc_X10_come 10 rfl) (tgt := 31) (by decide) (fun c0 => ?_) (fun c0 => ?_)
  · rw [if_neg c0] at h
    refine r_pick [1, 2, 3, 4, 0] (lo' := [(0, .ref a0), (1, .int xa1), (2, .int xa2), (3, .int xa3), (4, .int x3)]) rfl ?_
    exact hj4 _ h
  · rw [if_pos c0] at h
    refine r_aload_n (dc_X10_come 11 rfl) rfl rfl ?_
    refine r_iload_n (dc_X10_come 12 rfl) rfl rfl ?_
    refine r_iload_n (dc_X10_come 13 rfl) rfl rfl ?_
    obtain ⟨x10, e0, h⟩ := Option.bind_eq_some_iff.mp h
    refine r_callV (dc_X10_come 14 rfl) mv_X10_isCut ml_RX10_197 (As := [.int xa1, .int xa2]) (t_X10_isCut (d := d - 1) hl (by omega) e0) (by omega) rfl (Nat.le_of_ble_eq_true rfl) ?_
    refine r_if_eq (dc_X10_come 15 rfl) (tgt := 31) (by decide) (fun c0 => ?_) (fun c0 => ?_)
    · rw [if_pos c0] at h
      refine r_pick [1, 2, 3, 4, 0] (lo' := [(0, .ref a0), (1, .int xa1), (2, .int xa2), (3, .int xa3), (4, .int x3)]) rfl ?_
      exact hj4 _ h
    · rw [if_neg c0] at h
      refine r_iconst (dc_X10_come 16 rfl) kiconst_3 ?_
      refine r_istore (dc_X10_come 17 rfl) (by decide) (lo' := [(4, .int (3 : Int32)), (0, .ref a0), (1, .int xa1), (2, .int xa2), (3, .int xa3)]) rfl ?_
      refine r_pick [1, 2, 3, 4, 0] (lo' := [(0, .ref a0), (1, .int xa1), (2, .int xa2), (3, .int xa3), (4, .int (3 : Int32))]) rfl ?_
      exact hj4 _ h
theorem t_X10_lose {G : Gx} {d : Nat} (hl : G.1.stackTraces = false) (hd : 4 ≤ d) {σ : Sto} {a0 : Nat} {xa1 : Int32} {xa2 : Int32} {xa3 : Int32} {r : (Int32 × Sto)} (h : F_X10_lose σ a0 xa1 xa2 xa3 = some r) : Mi G d m_X10_lose 10 a0 [.int xa1, .int xa2, .int xa3] σ (.inl (some (.int r.1))) r.2 := by
  rw [F_X10_lose] at h
  obtain ⟨hg, h⟩ := chk_some h
  refine ⟨J.toMt (lo := [(0, .ref a0), (1, .int xa1), (2, .int xa2), (3, .int xa3)]) pn_RX10 rfl hl (Nat.le_of_ble_eq_true rfl) rfl ?_, hg⟩
  refine r_aload_n (dc_X10_lose 0 rfl) rfl rfl ?_
  refine r_iconst (dc_X10_lose 1 rfl) kiconst_0 ?_
  obtain ⟨s1, e0, h⟩ := Option.bind_eq_some_iff.mp h
  refine r_put (dc_X10_lose 2 rfl) pl_RX10_1 rfl e0 ?_
  refine r_aload_n (dc_X10_lose 3 rfl) rfl rfl ?_
  refine r_iload_n (dc_X10_lose 4 rfl) rfl rfl ?_
  refine r_iload_n (dc_X10_lose 5 rfl) rfl rfl ?_
  refine r_iload_n (dc_X10_lose 6 rfl) rfl rfl ?_
  obtain ⟨x3, s2, e0, h⟩ := wb_some h
  refine r_callV (dc_X10_lose 7 rfl) mv_X10_whyNot ml_RX10_220 (As := [.int xa1, .int xa2, .int xa3]) (t_X10_whyNot (d := d - 1) hl (by omega) e0) (by omega) rfl (Nat.le_of_ble_eq_true rfl) ?_
  refine r_istore (dc_X10_lose 8 rfl) (by decide) (lo' := [(4, .int x3), (0, .ref a0), (1, .int xa1), (2, .int xa2), (3, .int xa3)]) rfl ?_
  refine r_iload (dc_X10_lose 9 rfl) rfl ?_
  refine r_if_eq (dc_X10_lose 10 rfl) (tgt := 26) (by decide) (fun c0 => ?_) (fun c0 => ?_)
  · rw [if_pos c0] at h
    refine r_aload_n (dc_X10_lose 15 rfl) rfl rfl ?_
    obtain ⟨s4, e0, h⟩ := Option.bind_eq_some_iff.mp h
    refine r_callV (dc_X10_lose 16 rfl) mv_X10_steps ml_RX10_141 (As := []) (t_X10_steps (d := d - 1) hl (by omega) e0) (by omega) rfl (Nat.le_of_ble_eq_true rfl) ?_
    refine r_aload_n (dc_X10_lose 17 rfl) rfl rfl ?_
    refine r_iload_n (dc_X10_lose 18 rfl) rfl rfl ?_
    refine r_iload_n (dc_X10_lose 19 rfl) rfl rfl ?_
    refine r_iload_n (dc_X10_lose 20 rfl) rfl rfl ?_
    obtain ⟨s5, e0, h⟩ := Option.bind_eq_some_iff.mp h
    refine r_callV (dc_X10_lose 21 rfl) mv_X10_isGone ml_RX10_204 (As := [.int xa1, .int xa2, .int xa3]) (t_X10_isGone (d := d - 1) hl (by omega) e0) (by omega) rfl (Nat.le_of_ble_eq_true rfl) ?_
    refine r_aload_n (dc_X10_lose 22 rfl) rfl rfl ?_
    refine r_iconst (dc_X10_lose 23 rfl) kiconst_4 ?_
    refine r_iload_n (dc_X10_lose 24 rfl) rfl rfl ?_
    refine r_aload_n (dc_X10_lose 25 rfl) rfl rfl ?_
    refine r_iload_n (dc_X10_lose 26 rfl) rfl rfl ?_
    refine r_iload_n (dc_X10_lose 27 rfl) rfl rfl ?_
    obtain ⟨x6, e0, h⟩ := Option.bind_eq_some_iff.mp h
    refine r_callV (dc_X10_lose 28 rfl) mv_X10_waits ml_RX10_188 (As := [.int xa1, .int xa2]) (t_X10_waits (d := d - 1) hl (by omega) e0) (by omega) rfl (Nat.le_of_ble_eq_true rfl) ?_
    obtain ⟨x8, s7, e0, h⟩ := wb_some h
    refine r_callV (dc_X10_lose 29 rfl) mv_X10_notes ml_RX10_148 (As := [.int (4 : Int32), .int xa1, .int x6]) (t_X10_notes (d := d - 1) hl (by omega) e0) (by omega) rfl (Nat.le_of_ble_eq_true rfl) ?_
    cases h
    exact r_ireturn (dc_X10_lose 30 rfl) rfl
  · rw [if_neg c0] at h
    refine r_aload_n (dc_X10_lose 11 rfl) rfl rfl ?_
    refine r_iload (dc_X10_lose 12 rfl) rfl ?_
    obtain ⟨x10, s9, e0, h⟩ := wb_some h
    refine r_callV (dc_X10_lose 13 rfl) mv_X10_fails ml_RX10_101 (As := [.int x3]) (t_X10_fails (d := d - 1) hl (by omega) e0) (by omega) rfl (Nat.le_of_ble_eq_true rfl) ?_
    cases h
    exact r_ireturn (dc_X10_lose 14 rfl) rfl
theorem l_X10_twice_L65 {G : Gx} {d : Nat} (hl : G.1.stackTraces = false) (hd : 4 ≤ d) {pL0 : Nat} {xL1 : Int32} {xL2 : Int32} {xL3 : Int32} {xL5 : Int32} {r : (Int32 × Sto)} {k103 : Sto → Option (Int32 × Sto)}
    (hk103 : ∀ (sL : Sto), k103 sL = some r → J G d m_X10_twice 103 [(0, .ref pL0), (1, .int xL1), (2, .int xL2)] [] sL (.inl (some (.int r.1))) r.2)
  : ∀ (f : Nat) (xL6 : Int32) (sL : Sto), F_X10_twice_L65 pL0 xL1 xL2 xL3 xL5 f xL6 sL k103 = some r → J G d m_X10_twice 65 [(0, .ref pL0), (1, .int xL1), (2, .int xL2), (3, .int xL3), (5, .int xL5), (6, .int xL6)] [] sL (.inl (some (.int r.1))) r.2 := by
  intro f
  induction f with
  | zero => intro xL6 sL h; rw [F_X10_twice_L65] at h; cases h
  | succ f ih =>
    intro xL6 sL h
    rw [F_X10_twice_L65] at h
    refine r_iload (dc_X10_twice 37 rfl) rfl ?_
    refine r_sipush (dc_X10_twice 38 rfl) ksipush_147 ?_
    refine r_icmp_ge (dc_X10_twice 39 rfl) (tgt := 103) (by decide) (fun c0 => ?_) (fun c0 => ?_)
    · rw [if_pos c0] at h
      refine r_pick [0, 1, 2] (lo' := [(0, .ref pL0), (1, .int xL1), (2, .int xL2)]) rfl ?_
      exact hk103 _ h
    · rw [if_neg c0] at h
      refine r_aload_n (dc_X10_twice 40 rfl) rfl rfl ?_
      obtain ⟨p9, e0, h⟩ := Option.bind_eq_some_iff.mp h
      refine r_getR (dc_X10_twice 41 rfl) fl_RX10_14 e0 ?_
      refine r_iload (dc_X10_twice 42 rfl) rfl ?_
      refine r_iload (dc_X10_twice 43 rfl) rfl ?_
      refine r_iadd (dc_X10_twice 44 rfl) ?_
      refine r_aload_n (dc_X10_twice 45 rfl) rfl rfl ?_
      obtain ⟨p10, e0, h⟩ := Option.bind_eq_some_iff.mp h
      refine r_getR (dc_X10_twice 46 rfl) fl_RX10_14 e0 ?_
      refine r_iload_n (dc_X10_twice 47 rfl) rfl rfl ?_
      refine r_iload_n (dc_X10_twice 48 rfl) rfl rfl ?_
      refine r_iload_n (dc_X10_twice 49 rfl) rfl rfl ?_
      obtain ⟨x11, e0, h⟩ := Option.bind_eq_some_iff.mp h
      refine r_callS (dc_X10_twice 50 rfl) ms_X10_letterOf ml_RX10_191 (As := [.int xL1, .int xL2, .int xL3]) (t_X10_letterOf (d := d - 1) hl (by omega) e0) (by omega) rfl (Nat.le_of_ble_eq_true rfl) ?_
      refine r_iload (dc_X10_twice 51 rfl) rfl ?_
      refine r_iadd (dc_X10_twice 52 rfl) ?_
      obtain ⟨x12, e0, h⟩ := Option.bind_eq_some_iff.mp h
      refine r_iald (dc_X10_twice 53 rfl) e0 ?_
      obtain ⟨s13, e0, h⟩ := Option.bind_eq_some_iff.mp h
      refine r_iast (dc_X10_twice 54 rfl) e0 ?_
      refine r_iinc (dc_X10_twice 55 rfl) rfl (kinc_1 _) (by decide) (lo' := [(6, .int (xL6 + (1 : Int32))), (0, .ref pL0), (1, .int xL1), (2, .int xL2), (3, .int xL3), (5, .int xL5)]) rfl ?_
      refine r_goto (dc_X10_twice 56 rfl) (tgt := 65) (by decide) ?_
      refine r_pick [1, 2, 3, 4, 5, 0] (lo' := [(0, .ref pL0), (1, .int xL1), (2, .int xL2), (3, .int xL3), (5, .int xL5), (6, .int (xL6 + (1 : Int32)))]) rfl ?_
      exact ih _ _ h
theorem t_X10_twice {G : Gx} {d : Nat} (hl : G.1.stackTraces = false) (hd : 4 ≤ d) {σ : Sto} {a0 : Nat} {xa1 : Int32} {xa2 : Int32} {xa3 : Int32} {r : (Int32 × Sto)} (h : F_X10_twice σ a0 xa1 xa2 xa3 = some r) : Mi G d m_X10_twice 10 a0 [.int xa1, .int xa2, .int xa3] σ (.inl (some (.int r.1))) r.2 := by
  rw [F_X10_twice] at h
  obtain ⟨hg, h⟩ := chk_some h
  refine ⟨J.toMt (lo := [(0, .ref a0), (1, .int xa1), (2, .int xa2), (3, .int xa3)]) pn_RX10 rfl hl (Nat.le_of_ble_eq_true rfl) rfl ?_, hg⟩
  refine r_aload_n (dc_X10_twice 0 rfl) rfl rfl ?_
  refine r_iconst (dc_X10_twice 1 rfl) kiconst_0 ?_
  obtain ⟨s1, e0, h⟩ := Option.bind_eq_some_iff.mp h
  refine r_put (dc_X10_twice 2 rfl) pl_RX10_1 rfl e0 ?_
  refine r_aload_n (dc_X10_twice 3 rfl) rfl rfl ?_
  refine r_iload_n (dc_X10_twice 4 rfl) rfl rfl ?_
  refine r_iload_n (dc_X10_twice 5 rfl) rfl rfl ?_
  refine r_iload_n (dc_X10_twice 6 rfl) rfl rfl ?_
  obtain ⟨x3, s2, e0, h⟩ := wb_some h
  refine r_callV (dc_X10_twice 7 rfl) mv_X10_whyNot ml_RX10_220 (As := [.int xa1, .int xa2, .int xa3]) (t_X10_whyNot (d := d - 1) hl (by omega) e0) (by omega) rfl (Nat.le_of_ble_eq_true rfl) ?_
  refine r_istore (dc_X10_twice 8 rfl) (by decide) (lo' := [(4, .int x3), (0, .ref a0), (1, .int xa1), (2, .int xa2), (3, .int xa3)]) rfl ?_
  refine r_iload (dc_X10_twice 9 rfl) rfl ?_
  refine jn_elim h (Q := fun (j : Int32 → Option (Int32 × Sto)) => ∀ (x5 : Int32), j x5 = some r → J G d m_X10_twice 33 [(0, .ref a0), (1, .int xa1), (2, .int xa2), (3, .int xa3), (4, .int x5)] [] s2 (.inl (some (.int r.1))) r.2) ?_ (fun j4 hj4 h => ?_)
  · intro x5 h
    refine r_iload (dc_X10_twice 19 rfl) rfl ?_
    refine r_if_eq (dc_X10_twice 20 rfl) (tgt := 45) (by decide) (fun c0 => ?_) (fun c0 => ?_)
    · rw [if_pos c0] at h
      refine r_aload_n (dc_X10_twice 25 rfl) rfl rfl ?_
      obtain ⟨s6, e0, h⟩ := Option.bind_eq_some_iff.mp h
      refine r_callV (dc_X10_twice 26 rfl) mv_X10_steps ml_RX10_141 (As := []) (t_X10_steps (d := d - 1) hl (by omega) e0) (by omega) rfl (Nat.le_of_ble_eq_true rfl) ?_
      refine r_iload_n (dc_X10_twice 27 rfl) rfl rfl ?_
      refine r_iload_n (dc_X10_twice 28 rfl) rfl rfl ?_
      refine r_aload_n (dc_X10_twice 29 rfl) rfl rfl ?_
      refine r_iload_n (dc_X10_twice 30 rfl) rfl rfl ?_
      refine r_iload_n (dc_X10_twice 31 rfl) rfl rfl ?_
      obtain ⟨x7, e0, h⟩ := Option.bind_eq_some_iff.mp h
      refine r_callV (dc_X10_twice 32 rfl) mv_X10_waits ml_RX10_188 (As := [.int xa1, .int xa2]) (t_X10_waits (d := d - 1) hl (by omega) e0) (by omega) rfl (Nat.le_of_ble_eq_true rfl) ?_
      obtain ⟨x8, e0, h⟩ := Option.bind_eq_some_iff.mp h
      refine r_callS (dc_X10_twice 33 rfl) ms_X10_letterOf ml_RX10_191 (As := [.int xa1, .int xa2, .int x7]) (t_X10_letterOf (d := d - 1) hl (by omega) e0) (by omega) rfl (Nat.le_of_ble_eq_true rfl) ?_
      refine r_istore (dc_X10_twice 34 rfl) (by decide) (lo' := [(5, .int x8), (0, .ref a0), (1, .int xa1), (2, .int xa2), (3, .int xa3), (4, .int x5)]) rfl ?_
      refine r_iconst (dc_X10_twice 35 rfl) kiconst_0 ?_
      refine r_istore (dc_X10_twice 36 rfl) (by decide) (lo' := [(6, .int (0 : Int32)), (5, .int x8), (0, .ref a0), (1, .int xa1), (2, .int xa2), (3, .int xa3), (4, .int x5)]) rfl ?_
      refine r_pick [2, 3, 4, 5, 1, 0] (lo' := [(0, .ref a0), (1, .int xa1), (2, .int xa2), (3, .int xa3), (5, .int x8), (6, .int (0 : Int32))]) rfl ?_
      refine l_X10_twice_L65 hl hd (hk103 := ?_) fu _ _ h
      · intro s14 h
        refine r_aload_n (dc_X10_twice 57 rfl) rfl rfl ?_
        obtain ⟨p15, e0, h⟩ := Option.bind_eq_some_iff.mp h
        refine r_getR (dc_X10_twice 58 rfl) fl_RX10_14 e0 ?_
        refine r_sipush (dc_X10_twice 59 rfl) ksipush_5153 ?_
        refine r_iload_n (dc_X10_twice 60 rfl) rfl rfl ?_
        refine r_iload_n (dc_X10_twice 61 rfl) rfl rfl ?_
        obtain ⟨x16, e0, h⟩ := Option.bind_eq_some_iff.mp h
        refine r_callS (dc_X10_twice 62 rfl) ms_X10_couple ml_RX10_78 (As := [.int xa1, .int xa2]) (t_X10_couple (d := d - 1) hl (by omega) e0) (by omega) rfl (Nat.le_of_ble_eq_true rfl) ?_
        refine r_iadd (dc_X10_twice 63 rfl) ?_
        refine r_dup2 (dc_X10_twice 64 rfl) rfl rfl ?_
        obtain ⟨x17, e0, h⟩ := Option.bind_eq_some_iff.mp h
        refine r_iald (dc_X10_twice 65 rfl) e0 ?_
        refine r_iconst (dc_X10_twice 66 rfl) kiconst_1 ?_
        refine r_iadd (dc_X10_twice 67 rfl) ?_
        obtain ⟨s18, e0, h⟩ := Option.bind_eq_some_iff.mp h
        refine r_iast (dc_X10_twice 68 rfl) e0 ?_
        refine r_aload_n (dc_X10_twice 69 rfl) rfl rfl ?_
        refine r_iconst (dc_X10_twice 70 rfl) kiconst_5 ?_
        refine r_iload_n (dc_X10_twice 71 rfl) rfl rfl ?_
        refine r_aload_n (dc_X10_twice 72 rfl) rfl rfl ?_
        refine r_iload_n (dc_X10_twice 73 rfl) rfl rfl ?_
        refine r_iload_n (dc_X10_twice 74 rfl) rfl rfl ?_
        obtain ⟨x19, e0, h⟩ := Option.bind_eq_some_iff.mp h
        refine r_callV (dc_X10_twice 75 rfl) mv_X10_waits ml_RX10_188 (As := [.int xa1, .int xa2]) (t_X10_waits (d := d - 1) hl (by omega) e0) (by omega) rfl (Nat.le_of_ble_eq_true rfl) ?_
        obtain ⟨x21, s20, e0, h⟩ := wb_some h
        refine r_callV (dc_X10_twice 76 rfl) mv_X10_notes ml_RX10_148 (As := [.int (5 : Int32), .int xa1, .int x19]) (t_X10_notes (d := d - 1) hl (by omega) e0) (by omega) rfl (Nat.le_of_ble_eq_true rfl) ?_
        cases h
        exact r_ireturn (dc_X10_twice 77 rfl) rfl
    · rw [if_neg c0] at h
      refine r_aload_n (dc_X10_twice 21 rfl) rfl rfl ?_
      refine r_iload (dc_X10_twice 22 rfl) rfl ?_
      obtain ⟨x23, s22, e0, h⟩ := wb_some h
      refine r_callV (dc_X10_twice 23 rfl) mv_X10_fails ml_RX10_101 (As := [.int x5]) (t_X10_fails (d := d - 1) hl (by omega) e0) (by omega) rfl (Nat.le_of_ble_eq_true rfl) ?_
      cases h
      exact r_ireturn (dc_X10_twice 24 rfl) rfl
  refine r_if_ne (dc_X10_twice 10 rfl) (tgt := 33) (by decide) (fun c0 => ?_) (fun c0 => ?_)
  · rw [if_neg c0] at h
    refine r_pick [1, 2, 3, 4, 0] (lo' := [(0, .ref a0), (1, .int xa1), (2, .int xa2), (3, .int xa3), (4, .int x3)]) rfl ?_
    exact hj4 _ h
  · rw [if_pos c0] at h
    refine r_aload_n (dc_X10_twice 11 rfl) rfl rfl ?_
    refine r_iload_n (dc_X10_twice 12 rfl) rfl rfl ?_
    refine r_iload_n (dc_X10_twice 13 rfl) rfl rfl ?_
    obtain ⟨x24, e0, h⟩ := Option.bind_eq_some_iff.mp h
    refine r_callV (dc_X10_twice 14 rfl) mv_X10_waits ml_RX10_188 (As := [.int xa1, .int xa2]) (t_X10_waits (d := d - 1) hl (by omega) e0) (by omega) rfl (Nat.le_of_ble_eq_true rfl) ?_
    refine r_bipush (dc_X10_twice 15 rfl) kbipush_12 ?_
    refine r_icmp_ne (dc_X10_twice 16 rfl) (tgt := 33) (by decide) (fun c0 => ?_) (fun c0 => ?_)
    · rw [if_neg c0] at h
      refine r_pick [1, 2, 3, 4, 0] (lo' := [(0, .ref a0), (1, .int xa1), (2, .int xa2), (3, .int xa3), (4, .int x3)]) rfl ?_
      exact hj4 _ h
    · rw [if_pos c0] at h
      refine r_iconst (dc_X10_twice 17 rfl) kiconst_3 ?_
      refine r_istore (dc_X10_twice 18 rfl) (by decide) (lo' := [(4, .int (3 : Int32)), (0, .ref a0), (1, .int xa1), (2, .int xa2), (3, .int xa3)]) rfl ?_
      refine r_pick [1, 2, 3, 4, 0] (lo' := [(0, .ref a0), (1, .int xa1), (2, .int xa2), (3, .int xa3), (4, .int (3 : Int32))]) rfl ?_
      exact hj4 _ h
theorem t_X10_waiting {G : Gx} {d : Nat} (hl : G.1.stackTraces = false) (hd : 3 ≤ d) {σ : Sto} {a0 : Nat} {xa1 : Int32} {xa2 : Int32} {r : (Int32 × Sto)} (h : F_X10_waiting σ a0 xa1 xa2 = some r) : Mi G d m_X10_waiting 10 a0 [.int xa1, .int xa2] σ (.inl (some (.int r.1))) r.2 := by
  rw [F_X10_waiting] at h
  obtain ⟨hg, h⟩ := chk_some h
  refine ⟨J.toMt (lo := [(0, .ref a0), (1, .int xa1), (2, .int xa2)]) pn_RX10 rfl hl (Nat.le_of_ble_eq_true rfl) rfl ?_, hg⟩
  refine r_aload_n (dc_X10_waiting 0 rfl) rfl rfl ?_
  refine r_iconst (dc_X10_waiting 1 rfl) kiconst_0 ?_
  obtain ⟨s1, e0, h⟩ := Option.bind_eq_some_iff.mp h
  refine r_put (dc_X10_waiting 2 rfl) pl_RX10_1 rfl e0 ?_
  refine r_aload_n (dc_X10_waiting 3 rfl) rfl rfl ?_
  refine r_iload_n (dc_X10_waiting 4 rfl) rfl rfl ?_
  refine r_iload_n (dc_X10_waiting 5 rfl) rfl rfl ?_
  obtain ⟨x2, e0, h⟩ := Option.bind_eq_some_iff.mp h
  refine r_callV (dc_X10_waiting 6 rfl) mv_X10_areTwo ml_RX10_211 (As := [.int xa1, .int xa2]) (t_X10_areTwo (d := d - 1) hl (by omega) e0) (by omega) rfl (Nat.le_of_ble_eq_true rfl) ?_
  refine r_if_eq (dc_X10_waiting 7 rfl) (tgt := 23) (by decide) (fun c0 => ?_) (fun c0 => ?_)
  · rw [if_pos c0] at h
    refine r_aload_n (dc_X10_waiting 13 rfl) rfl rfl ?_
    refine r_iconst (dc_X10_waiting 14 rfl) kiconst_1 ?_
    obtain ⟨x4, s3, e0, h⟩ := wb_some h
    refine r_callV (dc_X10_waiting 15 rfl) mv_X10_fails ml_RX10_101 (As := [.int (1 : Int32)]) (t_X10_fails (d := d - 1) hl (by omega) e0) (by omega) rfl (Nat.le_of_ble_eq_true rfl) ?_
    cases h
    exact r_ireturn (dc_X10_waiting 16 rfl) rfl
  · rw [if_neg c0] at h
    refine r_aload_n (dc_X10_waiting 8 rfl) rfl rfl ?_
    refine r_iload_n (dc_X10_waiting 9 rfl) rfl rfl ?_
    refine r_iload_n (dc_X10_waiting 10 rfl) rfl rfl ?_
    obtain ⟨x5, e0, h⟩ := Option.bind_eq_some_iff.mp h
    refine r_callV (dc_X10_waiting 11 rfl) mv_X10_waits ml_RX10_188 (As := [.int xa1, .int xa2]) (t_X10_waits (d := d - 1) hl (by omega) e0) (by omega) rfl (Nat.le_of_ble_eq_true rfl) ?_
    refine r_goto (dc_X10_waiting 12 rfl) (tgt := 28) (by decide) ?_
    cases h
    exact r_ireturn (dc_X10_waiting 16 rfl) rfl
theorem l_X10_hadOf_L5 {G : Gx} {d : Nat} (hl : G.1.stackTraces = false) (hd : 3 ≤ d) {sL : Sto} {pL0 : Nat} {xL1 : Int32} {xL2 : Int32} {r : Int32} {k45 : Int32 → Option Int32}
    (hk45 : ∀ (xL3 : Int32), k45 xL3 = some r → J G d m_X10_hadOf 45 [(3, .int xL3)] [] sL (.inl (some (.int r))) sL)
  : ∀ (f : Nat) (xL3 : Int32) (xL4 : Int32), F_X10_hadOf_L5 sL pL0 xL1 xL2 f xL3 xL4 k45 = some r → J G d m_X10_hadOf 5 [(0, .ref pL0), (1, .int xL1), (2, .int xL2), (3, .int xL3), (4, .int xL4)] [] sL (.inl (some (.int r))) sL := by
  intro f
  induction f with
  | zero => intro xL3 xL4 h; rw [F_X10_hadOf_L5] at h; cases h
  | succ f ih =>
    intro xL3 xL4 h
    rw [F_X10_hadOf_L5] at h
    refine r_iload (dc_X10_hadOf 4 rfl) rfl ?_
    refine r_aload_n (dc_X10_hadOf 5 rfl) rfl rfl ?_
    refine r_iload_n (dc_X10_hadOf 6 rfl) rfl rfl ?_
    refine r_iconst (dc_X10_hadOf 7 rfl) kiconst_1 ?_
    refine r_iadd (dc_X10_hadOf 8 rfl) ?_
    obtain ⟨x1, e0, h⟩ := Option.bind_eq_some_iff.mp h
    refine r_callV (dc_X10_hadOf 9 rfl) mv_X10_of ml_RX10_62 (As := [.int (xL1 + (1 : Int32))]) (t_X10_of (d := d - 1) hl (by omega) e0) (by omega) rfl (Nat.le_of_ble_eq_true rfl) ?_
    refine r_icmp_ge (dc_X10_hadOf 10 rfl) (tgt := 45) (by decide) (fun c0 => ?_) (fun c0 => ?_)
    · rw [if_pos c0] at h
      refine r_pick [3] (lo' := [(3, .int xL3)]) rfl ?_
      exact hk45 _ h
    · rw [if_neg c0] at h
      refine r_iload_n (dc_X10_hadOf 11 rfl) rfl rfl ?_
      refine r_aload_n (dc_X10_hadOf 12 rfl) rfl rfl ?_
      refine r_iload_n (dc_X10_hadOf 13 rfl) rfl rfl ?_
      refine r_aload_n (dc_X10_hadOf 14 rfl) rfl rfl ?_
      refine r_iload_n (dc_X10_hadOf 15 rfl) rfl rfl ?_
      refine r_iconst (dc_X10_hadOf 16 rfl) kiconst_2 ?_
      refine r_iadd (dc_X10_hadOf 17 rfl) ?_
      refine r_iload (dc_X10_hadOf 18 rfl) rfl ?_
      refine r_iadd (dc_X10_hadOf 19 rfl) ?_
      obtain ⟨x2, e0, h⟩ := Option.bind_eq_some_iff.mp h
      refine r_callV (dc_X10_hadOf 20 rfl) mv_X10_of ml_RX10_62 (As := [.int ((xL1 + (2 : Int32)) + xL4)]) (t_X10_of (d := d - 1) hl (by omega) e0) (by omega) rfl (Nat.le_of_ble_eq_true rfl) ?_
      refine r_iconst (dc_X10_hadOf 21 rfl) kiconst_1 ?_
      obtain ⟨x3, e0, h⟩ := Option.bind_eq_some_iff.mp h
      refine r_callV (dc_X10_hadOf 22 rfl) mv_X10_doesHave ml_RX10_226 (As := [.int xL2, .int x2, .int (1 : Int32)]) (t_X10_doesHave (d := d - 1) hl (by omega) e0) (by omega) rfl (Nat.le_of_ble_eq_true rfl) ?_
      obtain ⟨x4, e0, h⟩ := Option.bind_eq_some_iff.mp h
      refine r_callS (dc_X10_hadOf 23 rfl) ms_X10_flag ml_RX10_74 (As := [.int x3]) (t_X10_flag (d := d - 1) hl (by omega) e0) (by omega) rfl (Nat.le_of_ble_eq_true rfl) ?_
      refine r_iadd (dc_X10_hadOf 24 rfl) ?_
      refine r_istore_n (dc_X10_hadOf 25 rfl) rfl (by decide) (lo' := [(3, .int (xL3 + x4)), (0, .ref pL0), (1, .int xL1), (2, .int xL2), (4, .int xL4)]) rfl ?_
      refine r_iinc (dc_X10_hadOf 26 rfl) rfl (kinc_1 _) (by decide) (lo' := [(4, .int (xL4 + (1 : Int32))), (3, .int (xL3 + x4)), (0, .ref pL0), (1, .int xL1), (2, .int xL2)]) rfl ?_
      refine r_goto (dc_X10_hadOf 27 rfl) (tgt := 5) (by decide) ?_
      refine r_pick [2, 3, 4, 1, 0] (lo' := [(0, .ref pL0), (1, .int xL1), (2, .int xL2), (3, .int (xL3 + x4)), (4, .int (xL4 + (1 : Int32)))]) rfl ?_
      exact ih _ _ h
theorem t_X10_hadOf {G : Gx} {d : Nat} (hl : G.1.stackTraces = false) (hd : 3 ≤ d) {σ : Sto} {a0 : Nat} {xa1 : Int32} {xa2 : Int32} {r : Int32} (h : F_X10_hadOf σ a0 xa1 xa2 = some r) : Mi G d m_X10_hadOf 10 a0 [.int xa1, .int xa2] σ (.inl (some (.int r))) σ := by
  rw [F_X10_hadOf] at h
  obtain ⟨hg, h⟩ := chk_some h
  refine ⟨J.toMt (lo := [(0, .ref a0), (1, .int xa1), (2, .int xa2)]) pn_RX10 rfl hl (Nat.le_of_ble_eq_true rfl) rfl ?_, hg⟩
  refine r_iconst (dc_X10_hadOf 0 rfl) kiconst_0 ?_
  refine r_istore_n (dc_X10_hadOf 1 rfl) rfl (by decide) (lo' := [(3, .int (0 : Int32)), (0, .ref a0), (1, .int xa1), (2, .int xa2)]) rfl ?_
  refine r_iconst (dc_X10_hadOf 2 rfl) kiconst_0 ?_
  refine r_istore (dc_X10_hadOf 3 rfl) (by decide) (lo' := [(4, .int (0 : Int32)), (3, .int (0 : Int32)), (0, .ref a0), (1, .int xa1), (2, .int xa2)]) rfl ?_
  refine r_pick [2, 3, 4, 1, 0] (lo' := [(0, .ref a0), (1, .int xa1), (2, .int xa2), (3, .int (0 : Int32)), (4, .int (0 : Int32))]) rfl ?_
  refine l_X10_hadOf_L5 hl hd (hk45 := ?_) fu _ _ h
  · intro x5 h
    refine r_iload_n (dc_X10_hadOf 28 rfl) rfl rfl ?_
    cases h
    exact r_ireturn (dc_X10_hadOf 29 rfl) rfl
theorem t_X10_letter {G : Gx} {d : Nat} (hl : G.1.stackTraces = false) (hd : 4 ≤ d) {σ : Sto} {a0 : Nat} {xa1 : Int32} {xa2 : Int32} {xa3 : Int32} {xa4 : Int32} {r : (Int32 × Sto)} (h : F_X10_letter σ a0 xa1 xa2 xa3 xa4 = some r) : Mi G d m_X10_letter 10 a0 [.int xa1, .int xa2, .int xa3, .int xa4] σ (.inl (some (.int r.1))) r.2 := by
  rw [F_X10_letter] at h
  obtain ⟨hg, h⟩ := chk_some h
  refine ⟨J.toMt (lo := [(0, .ref a0), (1, .int xa1), (2, .int xa2), (3, .int xa3), (4, .int xa4)]) pn_RX10 rfl hl (Nat.le_of_ble_eq_true rfl) rfl ?_, hg⟩
  refine r_aload_n (dc_X10_letter 0 rfl) rfl rfl ?_
  refine r_iconst (dc_X10_letter 1 rfl) kiconst_0 ?_
  obtain ⟨s1, e0, h⟩ := Option.bind_eq_some_iff.mp h
  refine r_put (dc_X10_letter 2 rfl) pl_RX10_1 rfl e0 ?_
  refine r_aload_n (dc_X10_letter 3 rfl) rfl rfl ?_
  refine r_iload_n (dc_X10_letter 4 rfl) rfl rfl ?_
  refine r_iload_n (dc_X10_letter 5 rfl) rfl rfl ?_
  refine r_iload_n (dc_X10_letter 6 rfl) rfl rfl ?_
  obtain ⟨x3, s2, e0, h⟩ := wb_some h
  refine r_callV (dc_X10_letter 7 rfl) mv_X10_whyNot ml_RX10_220 (As := [.int xa1, .int xa2, .int xa3]) (t_X10_whyNot (d := d - 1) hl (by omega) e0) (by omega) rfl (Nat.le_of_ble_eq_true rfl) ?_
  refine r_istore (dc_X10_letter 8 rfl) (by decide) (lo' := [(5, .int x3), (0, .ref a0), (1, .int xa1), (2, .int xa2), (3, .int xa3), (4, .int xa4)]) rfl ?_
  refine r_iload (dc_X10_letter 9 rfl) rfl ?_
  refine jn_elim h (Q := fun (j : Int32 → Option (Int32 × Sto)) => ∀ (x5 : Int32), j x5 = some r → J G d m_X10_letter 35 [(0, .ref a0), (1, .int xa1), (2, .int xa2), (3, .int xa3), (4, .int xa4), (5, .int x5)] [] s2 (.inl (some (.int r.1))) r.2) ?_ (fun j4 hj4 h => ?_)
  · intro x5 h
    refine r_iload (dc_X10_letter 19 rfl) rfl ?_
    refine r_if_eq (dc_X10_letter 20 rfl) (tgt := 47) (by decide) (fun c0 => ?_) (fun c0 => ?_)
    · rw [if_pos c0] at h
      refine r_iload_n (dc_X10_letter 25 rfl) rfl rfl ?_
      refine r_iload_n (dc_X10_letter 26 rfl) rfl rfl ?_
      refine r_iload_n (dc_X10_letter 27 rfl) rfl rfl ?_
      obtain ⟨x6, e0, h⟩ := Option.bind_eq_some_iff.mp h
      refine r_callS (dc_X10_letter 28 rfl) ms_X10_letterOf ml_RX10_191 (As := [.int xa1, .int xa2, .int xa3]) (t_X10_letterOf (d := d - 1) hl (by omega) e0) (by omega) rfl (Nat.le_of_ble_eq_true rfl) ?_
      refine r_istore (dc_X10_letter 29 rfl) (by decide) (lo' := [(6, .int x6), (0, .ref a0), (1, .int xa1), (2, .int xa2), (3, .int xa3), (4, .int xa4), (5, .int x5)]) rfl ?_
      refine r_iload (dc_X10_letter 30 rfl) rfl ?_
      refine r_if_ne (dc_X10_letter 31 rfl) (tgt := 72) (by decide) (fun c0 => ?_) (fun c0 => ?_)
      · rw [if_neg c0] at h
        refine r_iload (dc_X10_letter 39 rfl) rfl ?_
        refine r_iconst (dc_X10_letter 40 rfl) kiconst_1 ?_
        refine r_icmp_ne (dc_X10_letter 41 rfl) (tgt := 90) (by decide) (fun c0 => ?_) (fun c0 => ?_)
        · rw [if_neg c0] at h
          refine r_aload_n (dc_X10_letter 49 rfl) rfl rfl ?_
          refine r_iload (dc_X10_letter 50 rfl) rfl ?_
          refine r_iload_n (dc_X10_letter 51 rfl) rfl rfl ?_
          obtain ⟨x7, e0, h⟩ := Option.bind_eq_some_iff.mp h
          refine r_callV (dc_X10_letter 52 rfl) mv_X10_hadOf ml_RX10_230 (As := [.int x6, .int xa2]) (t_X10_hadOf (d := d - 1) hl (by omega) e0) (by omega) rfl (Nat.le_of_ble_eq_true rfl) ?_
          cases h
          exact r_ireturn (dc_X10_letter 53 rfl) rfl
        · rw [if_pos c0] at h
          refine r_aload_n (dc_X10_letter 42 rfl) rfl rfl ?_
          obtain ⟨p8, e0, h⟩ := Option.bind_eq_some_iff.mp h
          refine r_getR (dc_X10_letter 43 rfl) fl_RX10_14 e0 ?_
          refine r_iload (dc_X10_letter 44 rfl) rfl ?_
          refine r_iconst (dc_X10_letter 45 rfl) kiconst_0 ?_
          refine r_iadd (dc_X10_letter 46 rfl) ?_
          obtain ⟨x9, e0, h⟩ := Option.bind_eq_some_iff.mp h
          refine r_iald (dc_X10_letter 47 rfl) e0 ?_
          refine r_goto (dc_X10_letter 48 rfl) (tgt := 97) (by decide) ?_
          cases h
          exact r_ireturn (dc_X10_letter 53 rfl) rfl
      · rw [if_pos c0] at h
        refine r_aload_n (dc_X10_letter 32 rfl) rfl rfl ?_
        obtain ⟨p10, e0, h⟩ := Option.bind_eq_some_iff.mp h
        refine r_getR (dc_X10_letter 33 rfl) fl_RX10_14 e0 ?_
        refine r_iload (dc_X10_letter 34 rfl) rfl ?_
        refine r_iconst (dc_X10_letter 35 rfl) kiconst_1 ?_
        refine r_iadd (dc_X10_letter 36 rfl) ?_
        obtain ⟨x11, e0, h⟩ := Option.bind_eq_some_iff.mp h
        refine r_iald (dc_X10_letter 37 rfl) e0 ?_
        refine r_goto (dc_X10_letter 38 rfl) (tgt := 97) (by decide) ?_
        cases h
        exact r_ireturn (dc_X10_letter 53 rfl) rfl
    · rw [if_neg c0] at h
      refine r_aload_n (dc_X10_letter 21 rfl) rfl rfl ?_
      refine r_iload (dc_X10_letter 22 rfl) rfl ?_
      obtain ⟨x13, s12, e0, h⟩ := wb_some h
      refine r_callV (dc_X10_letter 23 rfl) mv_X10_fails ml_RX10_101 (As := [.int x5]) (t_X10_fails (d := d - 1) hl (by omega) e0) (by omega) rfl (Nat.le_of_ble_eq_true rfl) ?_
      cases h
      exact r_ireturn (dc_X10_letter 24 rfl) rfl
  refine r_if_ne (dc_X10_letter 10 rfl) (tgt := 35) (by decide) (fun c0 => ?_) (fun c0 => ?_)
  · rw [if_neg c0] at h
    refine r_pick [1, 2, 3, 4, 5, 0] (lo' := [(0, .ref a0), (1, .int xa1), (2, .int xa2), (3, .int xa3), (4, .int xa4), (5, .int x3)]) rfl ?_
    exact hj4 _ h
  · rw [if_pos c0] at h
    refine r_iload (dc_X10_letter 11 rfl) rfl ?_
    refine r_i2l (dc_X10_letter 12 rfl) ?_
    refine r_lconst (dc_X10_letter 13 rfl) klconst_0 ?_
    refine r_ldc2 (dc_X10_letter 14 rfl) ck_RX10_97 ?_
    obtain ⟨x14, e0, h⟩ := Option.bind_eq_some_iff.mp h
    refine r_callS (dc_X10_letter 15 rfl) ms_X10_isIn ml_RX10_89 (As := [.long xa4.toInt64, .long (0 : Int64), .long (2 : Int64)]) (t_X10_isIn (d := d - 1) hl (by omega) e0) (by omega) rfl (Nat.le_of_ble_eq_true rfl) ?_
    refine r_if_ne (dc_X10_letter 16 rfl) (tgt := 35) (by decide) (fun c0 => ?_) (fun c0 => ?_)
    · rw [if_neg c0] at h
      refine r_pick [1, 2, 3, 4, 5, 0] (lo' := [(0, .ref a0), (1, .int xa1), (2, .int xa2), (3, .int xa3), (4, .int xa4), (5, .int x3)]) rfl ?_
      exact hj4 _ h
    · rw [if_pos c0] at h
      refine r_iconst (dc_X10_letter 17 rfl) kiconst_3 ?_
      refine r_istore (dc_X10_letter 18 rfl) (by decide) (lo' := [(5, .int (3 : Int32)), (0, .ref a0), (1, .int xa1), (2, .int xa2), (3, .int xa3), (4, .int xa4)]) rfl ?_
      refine r_pick [1, 2, 3, 4, 5, 0] (lo' := [(0, .ref a0), (1, .int xa1), (2, .int xa2), (3, .int xa3), (4, .int xa4), (5, .int (3 : Int32))]) rfl ?_
      exact hj4 _ h
theorem t_X10_inLetter {G : Gx} {d : Nat} (hl : G.1.stackTraces = false) (hd : 4 ≤ d) {σ : Sto} {a0 : Nat} {xa1 : Int32} {xa2 : Int32} {xa3 : Int32} {xa4 : Int32} {r : (Int32 × Sto)} (h : F_X10_inLetter σ a0 xa1 xa2 xa3 xa4 = some r) : Mi G d m_X10_inLetter 10 a0 [.int xa1, .int xa2, .int xa3, .int xa4] σ (.inl (some (.int r.1))) r.2 := by
  rw [F_X10_inLetter] at h
  obtain ⟨hg, h⟩ := chk_some h
  refine ⟨J.toMt (lo := [(0, .ref a0), (1, .int xa1), (2, .int xa2), (3, .int xa3), (4, .int xa4)]) pn_RX10 rfl hl (Nat.le_of_ble_eq_true rfl) rfl ?_, hg⟩
  refine r_aload_n (dc_X10_inLetter 0 rfl) rfl rfl ?_
  refine r_iconst (dc_X10_inLetter 1 rfl) kiconst_0 ?_
  obtain ⟨s1, e0, h⟩ := Option.bind_eq_some_iff.mp h
  refine r_put (dc_X10_inLetter 2 rfl) pl_RX10_1 rfl e0 ?_
  refine r_aload_n (dc_X10_inLetter 3 rfl) rfl rfl ?_
  refine r_iload_n (dc_X10_inLetter 4 rfl) rfl rfl ?_
  refine r_iload_n (dc_X10_inLetter 5 rfl) rfl rfl ?_
  refine r_iload_n (dc_X10_inLetter 6 rfl) rfl rfl ?_
  obtain ⟨x3, s2, e0, h⟩ := wb_some h
  refine r_callV (dc_X10_inLetter 7 rfl) mv_X10_whyNot ml_RX10_220 (As := [.int xa1, .int xa2, .int xa3]) (t_X10_whyNot (d := d - 1) hl (by omega) e0) (by omega) rfl (Nat.le_of_ble_eq_true rfl) ?_
  refine r_istore (dc_X10_inLetter 8 rfl) (by decide) (lo' := [(5, .int x3), (0, .ref a0), (1, .int xa1), (2, .int xa2), (3, .int xa3), (4, .int xa4)]) rfl ?_
  refine r_iload (dc_X10_inLetter 9 rfl) rfl ?_
  refine r_if_eq (dc_X10_inLetter 10 rfl) (tgt := 26) (by decide) (fun c0 => ?_) (fun c0 => ?_)
  · rw [if_pos c0] at h
    refine r_iload_n (dc_X10_inLetter 15 rfl) rfl rfl ?_
    refine r_iload_n (dc_X10_inLetter 16 rfl) rfl rfl ?_
    refine r_iload_n (dc_X10_inLetter 17 rfl) rfl rfl ?_
    obtain ⟨x4, e0, h⟩ := Option.bind_eq_some_iff.mp h
    refine r_callS (dc_X10_inLetter 18 rfl) ms_X10_letterOf ml_RX10_191 (As := [.int xa1, .int xa2, .int xa3]) (t_X10_letterOf (d := d - 1) hl (by omega) e0) (by omega) rfl (Nat.le_of_ble_eq_true rfl) ?_
    refine r_istore (dc_X10_inLetter 19 rfl) (by decide) (lo' := [(6, .int x4), (5, .int x3), (0, .ref a0), (1, .int xa1), (2, .int xa2), (3, .int xa3), (4, .int xa4)]) rfl ?_
    refine r_iload (dc_X10_inLetter 20 rfl) rfl ?_
    refine r_i2l (dc_X10_inLetter 21 rfl) ?_
    refine r_lconst (dc_X10_inLetter 22 rfl) klconst_0 ?_
    refine r_aload_n (dc_X10_inLetter 23 rfl) rfl rfl ?_
    obtain ⟨p5, e0, h⟩ := Option.bind_eq_some_iff.mp h
    refine r_getR (dc_X10_inLetter 24 rfl) fl_RX10_14 e0 ?_
    refine r_iload (dc_X10_inLetter 25 rfl) rfl ?_
    refine r_iconst (dc_X10_inLetter 26 rfl) kiconst_1 ?_
    refine r_iadd (dc_X10_inLetter 27 rfl) ?_
    obtain ⟨x6, e0, h⟩ := Option.bind_eq_some_iff.mp h
    refine r_iald (dc_X10_inLetter 28 rfl) e0 ?_
    refine r_iconst (dc_X10_inLetter 29 rfl) kiconst_1 ?_
    refine r_isub (dc_X10_inLetter 30 rfl) ?_
    refine r_i2l (dc_X10_inLetter 31 rfl) ?_
    obtain ⟨x7, e0, h⟩ := Option.bind_eq_some_iff.mp h
    refine r_callS (dc_X10_inLetter 32 rfl) ms_X10_isIn ml_RX10_89 (As := [.long xa4.toInt64, .long (0 : Int64), .long (x6 - (1 : Int32)).toInt64]) (t_X10_isIn (d := d - 1) hl (by omega) e0) (by omega) rfl (Nat.le_of_ble_eq_true rfl) ?_
    refine r_if_eq (dc_X10_inLetter 33 rfl) (tgt := 71) (by decide) (fun c0 => ?_) (fun c0 => ?_)
    · rw [if_pos c0] at h
      refine r_aload_n (dc_X10_inLetter 43 rfl) rfl rfl ?_
      refine r_iconst (dc_X10_inLetter 44 rfl) kiconst_2 ?_
      obtain ⟨x9, s8, e0, h⟩ := wb_some h
      refine r_callV (dc_X10_inLetter 45 rfl) mv_X10_fails ml_RX10_101 (As := [.int (2 : Int32)]) (t_X10_fails (d := d - 1) hl (by omega) e0) (by omega) rfl (Nat.le_of_ble_eq_true rfl) ?_
      cases h
      exact r_ireturn (dc_X10_inLetter 46 rfl) rfl
    · rw [if_neg c0] at h
      refine r_aload_n (dc_X10_inLetter 34 rfl) rfl rfl ?_
      obtain ⟨p10, e0, h⟩ := Option.bind_eq_some_iff.mp h
      refine r_getR (dc_X10_inLetter 35 rfl) fl_RX10_14 e0 ?_
      refine r_iload (dc_X10_inLetter 36 rfl) rfl ?_
      refine r_iconst (dc_X10_inLetter 37 rfl) kiconst_2 ?_
      refine r_iadd (dc_X10_inLetter 38 rfl) ?_
      refine r_iload (dc_X10_inLetter 39 rfl) rfl ?_
      refine r_iadd (dc_X10_inLetter 40 rfl) ?_
      obtain ⟨x11, e0, h⟩ := Option.bind_eq_some_iff.mp h
      refine r_iald (dc_X10_inLetter 41 rfl) e0 ?_
      refine r_goto (dc_X10_inLetter 42 rfl) (tgt := 76) (by decide) ?_
      cases h
      exact r_ireturn (dc_X10_inLetter 46 rfl) rfl
  · rw [if_neg c0] at h
    refine r_aload_n (dc_X10_inLetter 11 rfl) rfl rfl ?_
    refine r_iload (dc_X10_inLetter 12 rfl) rfl ?_
    obtain ⟨x13, s12, e0, h⟩ := wb_some h
    refine r_callV (dc_X10_inLetter 13 rfl) mv_X10_fails ml_RX10_101 (As := [.int x3]) (t_X10_fails (d := d - 1) hl (by omega) e0) (by omega) rfl (Nat.le_of_ble_eq_true rfl) ?_
    cases h
    exact r_ireturn (dc_X10_inLetter 14 rfl) rfl
theorem l_X10_copiesState_L2 {G : Gx} {d : Nat} (hl : G.1.stackTraces = false) (hd : 1 ≤ d) {pL0 : Nat} {xL1 : Int32} {xL2 : Int32} {r : Sto} {k29 : Sto → Option Sto}
    (hk29 : ∀ (sL : Sto), k29 sL = some r → J G d m_X10_copiesState 29 [] [] sL (.inl none) r)
  : ∀ (f : Nat) (xL3 : Int32) (sL : Sto), F_X10_copiesState_L2 pL0 xL1 xL2 f xL3 sL k29 = some r → J G d m_X10_copiesState 2 [(0, .ref pL0), (1, .int xL1), (2, .int xL2), (3, .int xL3)] [] sL (.inl none) r := by
  intro f
  induction f with
  | zero => intro xL3 sL h; rw [F_X10_copiesState_L2] at h; cases h
  | succ f ih =>
    intro xL3 sL h
    rw [F_X10_copiesState_L2] at h
    refine r_iload_n (dc_X10_copiesState 2 rfl) rfl rfl ?_
    refine r_sipush (dc_X10_copiesState 3 rfl) ksipush_394 ?_
    refine r_icmp_ge (dc_X10_copiesState 4 rfl) (tgt := 29) (by decide) (fun c0 => ?_) (fun c0 => ?_)
    · rw [if_pos c0] at h
      refine r_pick [] (lo' := []) rfl ?_
      exact hk29 _ h
    · rw [if_neg c0] at h
      refine r_aload_n (dc_X10_copiesState 5 rfl) rfl rfl ?_
      refine r_iload_n (dc_X10_copiesState 6 rfl) rfl rfl ?_
      refine r_iload_n (dc_X10_copiesState 7 rfl) rfl rfl ?_
      refine r_iadd (dc_X10_copiesState 8 rfl) ?_
      refine r_aload_n (dc_X10_copiesState 9 rfl) rfl rfl ?_
      refine r_iload_n (dc_X10_copiesState 10 rfl) rfl rfl ?_
      refine r_iload_n (dc_X10_copiesState 11 rfl) rfl rfl ?_
      refine r_iadd (dc_X10_copiesState 12 rfl) ?_
      obtain ⟨x1, e0, h⟩ := Option.bind_eq_some_iff.mp h
      refine r_callV (dc_X10_copiesState 13 rfl) mv_X10_of ml_RX10_62 (As := [.int (xL1 + xL3)]) (t_X10_of (d := d - 1) hl (by omega) e0) (by omega) rfl (Nat.le_of_ble_eq_true rfl) ?_
      obtain ⟨s2, e0, h⟩ := Option.bind_eq_some_iff.mp h
      refine r_callV (dc_X10_copiesState 14 rfl) mv_X10_set ml_RX10_66 (As := [.int (xL2 + xL3), .int x1]) (t_X10_set (d := d - 1) hl (by omega) e0) (by omega) rfl (Nat.le_of_ble_eq_true rfl) ?_
      refine r_iinc (dc_X10_copiesState 15 rfl) rfl (kinc_1 _) (by decide) (lo' := [(3, .int (xL3 + (1 : Int32))), (0, .ref pL0), (1, .int xL1), (2, .int xL2)]) rfl ?_
      refine r_goto (dc_X10_copiesState 16 rfl) (tgt := 2) (by decide) ?_
      refine r_pick [1, 2, 3, 0] (lo' := [(0, .ref pL0), (1, .int xL1), (2, .int xL2), (3, .int (xL3 + (1 : Int32)))]) rfl ?_
      exact ih _ _ h
theorem t_X10_copiesState {G : Gx} {d : Nat} (hl : G.1.stackTraces = false) (hd : 1 ≤ d) {σ : Sto} {a0 : Nat} {xa1 : Int32} {xa2 : Int32} {r : Sto} (h : F_X10_copiesState σ a0 xa1 xa2 = some r) : Mi G d m_X10_copiesState 10 a0 [.int xa1, .int xa2] σ (.inl none) r := by
  rw [F_X10_copiesState] at h
  obtain ⟨hg, h⟩ := chk_some h
  refine ⟨J.toMt (lo := [(0, .ref a0), (1, .int xa1), (2, .int xa2)]) pn_RX10 rfl hl (Nat.le_of_ble_eq_true rfl) rfl ?_, hg⟩
  refine r_iconst (dc_X10_copiesState 0 rfl) kiconst_0 ?_
  refine r_istore_n (dc_X10_copiesState 1 rfl) rfl (by decide) (lo' := [(3, .int (0 : Int32)), (0, .ref a0), (1, .int xa1), (2, .int xa2)]) rfl ?_
  refine r_pick [1, 2, 3, 0] (lo' := [(0, .ref a0), (1, .int xa1), (2, .int xa2), (3, .int (0 : Int32))]) rfl ?_
  refine l_X10_copiesState_L2 hl hd (hk29 := ?_) fu _ _ h
  · intro s3 h
    cases h
    exact r_vreturn (dc_X10_copiesState 17 rfl) rfl
theorem t_X10_hasMany {G : Gx} {d : Nat} (hl : G.1.stackTraces = false) (hd : 3 ≤ d) {σ : Sto} {a0 : Nat} {xa1 : Int32} {r : Int32} (h : F_X10_hasMany σ a0 xa1 = some r) : Mi G d m_X10_hasMany 10 a0 [.int xa1] σ (.inl (some (.int r))) σ := by
  rw [F_X10_hasMany] at h
  obtain ⟨hg, h⟩ := chk_some h
  refine ⟨J.toMt (lo := [(0, .ref a0), (1, .int xa1)]) pn_RX10 rfl hl (Nat.le_of_ble_eq_true rfl) rfl ?_, hg⟩
  refine r_aload_n (dc_X10_hasMany 0 rfl) rfl rfl ?_
  refine r_iload_n (dc_X10_hasMany 1 rfl) rfl rfl ?_
  obtain ⟨x1, e0, h⟩ := Option.bind_eq_some_iff.mp h
  refine r_callS (dc_X10_hasMany 2 rfl) ms_X10_stateOf ml_RX10_111 (As := [.int xa1]) (t_X10_stateOf (d := d - 1) hl (by omega) e0) (by omega) rfl (Nat.le_of_ble_eq_true rfl) ?_
  refine r_bipush (dc_X10_hasMany 3 rfl) kbipush_25 ?_
  refine r_iadd (dc_X10_hasMany 4 rfl) ?_
  obtain ⟨x2, e0, h⟩ := Option.bind_eq_some_iff.mp h
  refine r_callV (dc_X10_hasMany 5 rfl) mv_X10_bitsOf ml_RX10_233 (As := [.int (x1 + (25 : Int32))]) (t_X10_bitsOf (d := d - 1) hl (by omega) e0) (by omega) rfl (Nat.le_of_ble_eq_true rfl) ?_
  cases h
  exact r_ireturn (dc_X10_hasMany 6 rfl) rfl
theorem t_X10_save {G : Gx} {d : Nat} (hl : G.1.stackTraces = false) (hd : 4 ≤ d) {σ : Sto} {a0 : Nat} {xa1 : Int32} {r : (Int32 × Sto)} (h : F_X10_save σ a0 xa1 = some r) : Mi G d m_X10_save 10 a0 [.int xa1] σ (.inl (some (.int r.1))) r.2 := by
  rw [F_X10_save] at h
  obtain ⟨hg, h⟩ := chk_some h
  refine ⟨J.toMt (lo := [(0, .ref a0), (1, .int xa1)]) pn_RX10 rfl hl (Nat.le_of_ble_eq_true rfl) rfl ?_, hg⟩
  refine r_aload_n (dc_X10_save 0 rfl) rfl rfl ?_
  refine r_iconst (dc_X10_save 1 rfl) kiconst_0 ?_
  obtain ⟨s1, e0, h⟩ := Option.bind_eq_some_iff.mp h
  refine r_put (dc_X10_save 2 rfl) pl_RX10_1 rfl e0 ?_
  refine r_aload_n (dc_X10_save 3 rfl) rfl rfl ?_
  refine r_iload_n (dc_X10_save 4 rfl) rfl rfl ?_
  obtain ⟨x2, e0, h⟩ := Option.bind_eq_some_iff.mp h
  refine r_callV (dc_X10_save 5 rfl) mv_X10_isSite ml_RX10_93 (As := [.int xa1]) (t_X10_isSite (d := d - 1) hl (by omega) e0) (by omega) rfl (Nat.le_of_ble_eq_true rfl) ?_
  refine r_if_ne (dc_X10_save 6 rfl) (tgt := 19) (by decide) (fun c0 => ?_) (fun c0 => ?_)
  · rw [if_neg c0] at h
    refine r_aload_n (dc_X10_save 11 rfl) rfl rfl ?_
    obtain ⟨s3, e0, h⟩ := Option.bind_eq_some_iff.mp h
    refine r_callV (dc_X10_save 12 rfl) mv_X10_steps ml_RX10_141 (As := []) (t_X10_steps (d := d - 1) hl (by omega) e0) (by omega) rfl (Nat.le_of_ble_eq_true rfl) ?_
    refine r_aload_n (dc_X10_save 13 rfl) rfl rfl ?_
    refine r_iload_n (dc_X10_save 14 rfl) rfl rfl ?_
    obtain ⟨x4, e0, h⟩ := Option.bind_eq_some_iff.mp h
    refine r_callS (dc_X10_save 15 rfl) ms_X10_stateOf ml_RX10_111 (As := [.int xa1]) (t_X10_stateOf (d := d - 1) hl (by omega) e0) (by omega) rfl (Nat.le_of_ble_eq_true rfl) ?_
    refine r_iload_n (dc_X10_save 16 rfl) rfl rfl ?_
    obtain ⟨x5, e0, h⟩ := Option.bind_eq_some_iff.mp h
    refine r_callS (dc_X10_save 17 rfl) ms_X10_stateOf ml_RX10_111 (As := [.int xa1]) (t_X10_stateOf (d := d - 1) hl (by omega) e0) (by omega) rfl (Nat.le_of_ble_eq_true rfl) ?_
    refine r_sipush (dc_X10_save 18 rfl) ksipush_395 ?_
    refine r_iadd (dc_X10_save 19 rfl) ?_
    refine r_iconst (dc_X10_save 20 rfl) kiconst_1 ?_
    refine r_isub (dc_X10_save 21 rfl) ?_
    obtain ⟨s6, e0, h⟩ := Option.bind_eq_some_iff.mp h
    refine r_callV (dc_X10_save 22 rfl) mv_X10_copiesState ml_RX10_236 (As := [.int x4, .int ((x5 + (395 : Int32)) - (1 : Int32))]) (t_X10_copiesState (d := d - 1) hl (by omega) e0) (by omega) rfl (Nat.le_of_ble_eq_true rfl) ?_
    refine r_aload_n (dc_X10_save 23 rfl) rfl rfl ?_
    refine r_bipush (dc_X10_save 24 rfl) kbipush_6 ?_
    refine r_iload_n (dc_X10_save 25 rfl) rfl rfl ?_
    refine r_aload_n (dc_X10_save 26 rfl) rfl rfl ?_
    refine r_iload_n (dc_X10_save 27 rfl) rfl rfl ?_
    obtain ⟨x7, e0, h⟩ := Option.bind_eq_some_iff.mp h
    refine r_callV (dc_X10_save 28 rfl) mv_X10_hasMany ml_RX10_239 (As := [.int xa1]) (t_X10_hasMany (d := d - 1) hl (by omega) e0) (by omega) rfl (Nat.le_of_ble_eq_true rfl) ?_
    obtain ⟨x9, s8, e0, h⟩ := wb_some h
    refine r_callV (dc_X10_save 29 rfl) mv_X10_notes ml_RX10_148 (As := [.int (6 : Int32), .int xa1, .int x7]) (t_X10_notes (d := d - 1) hl (by omega) e0) (by omega) rfl (Nat.le_of_ble_eq_true rfl) ?_
    cases h
    exact r_ireturn (dc_X10_save 30 rfl) rfl
  · rw [if_pos c0] at h
    refine r_aload_n (dc_X10_save 7 rfl) rfl rfl ?_
    refine r_iconst (dc_X10_save 8 rfl) kiconst_1 ?_
    obtain ⟨x11, s10, e0, h⟩ := wb_some h
    refine r_callV (dc_X10_save 9 rfl) mv_X10_fails ml_RX10_101 (As := [.int (1 : Int32)]) (t_X10_fails (d := d - 1) hl (by omega) e0) (by omega) rfl (Nat.le_of_ble_eq_true rfl) ?_
    cases h
    exact r_ireturn (dc_X10_save 10 rfl) rfl
theorem t_X10_falls {G : Gx} {d : Nat} (hl : G.1.stackTraces = false) (hd : 2 ≤ d) {σ : Sto} {a0 : Nat} {xa1 : Int32} {r : Sto} (h : F_X10_falls σ a0 xa1 = some r) : Mi G d m_X10_falls 10 a0 [.int xa1] σ (.inl none) r := by
  rw [F_X10_falls] at h
  obtain ⟨hg, h⟩ := chk_some h
  refine ⟨J.toMt (lo := [(0, .ref a0), (1, .int xa1)]) pn_RX10 rfl hl (Nat.le_of_ble_eq_true rfl) rfl ?_, hg⟩
  refine r_aload_n (dc_X10_falls 0 rfl) rfl rfl ?_
  refine r_iload_n (dc_X10_falls 1 rfl) rfl rfl ?_
  obtain ⟨x1, e0, h⟩ := Option.bind_eq_some_iff.mp h
  refine r_callS (dc_X10_falls 2 rfl) ms_X10_stateOf ml_RX10_111 (As := [.int xa1]) (t_X10_stateOf (d := d - 1) hl (by omega) e0) (by omega) rfl (Nat.le_of_ble_eq_true rfl) ?_
  refine r_sipush (dc_X10_falls 3 rfl) ksipush_395 ?_
  refine r_iadd (dc_X10_falls 4 rfl) ?_
  refine r_iconst (dc_X10_falls 5 rfl) kiconst_1 ?_
  refine r_isub (dc_X10_falls 6 rfl) ?_
  refine r_iload_n (dc_X10_falls 7 rfl) rfl rfl ?_
  obtain ⟨x2, e0, h⟩ := Option.bind_eq_some_iff.mp h
  refine r_callS (dc_X10_falls 8 rfl) ms_X10_stateOf ml_RX10_111 (As := [.int xa1]) (t_X10_stateOf (d := d - 1) hl (by omega) e0) (by omega) rfl (Nat.le_of_ble_eq_true rfl) ?_
  obtain ⟨s3, e0, h⟩ := Option.bind_eq_some_iff.mp h
  refine r_callV (dc_X10_falls 9 rfl) mv_X10_copiesState ml_RX10_236 (As := [.int ((x1 + (395 : Int32)) - (1 : Int32)), .int x2]) (t_X10_copiesState (d := d - 1) hl (by omega) e0) (by omega) rfl (Nat.le_of_ble_eq_true rfl) ?_
  cases h
  exact r_vreturn (dc_X10_falls 10 rfl) rfl
theorem l_X10_fall_L33 {G : Gx} {d : Nat} (hl : G.1.stackTraces = false) (hd : 3 ≤ d) {sL : Sto} {pL0 : Nat} {xL1 : Int32} {xL2 : Int32} {r : (Int32 × Sto)} {k93 : Int32 → Option (Int32 × Sto)}
    (hk93 : ∀ (xL3 : Int32), k93 xL3 = some r → J G d m_X10_fall 93 [(0, .ref pL0), (1, .int xL1), (3, .int xL3)] [] sL (.inl (some (.int r.1))) r.2)
  : ∀ (f : Nat) (xL3 : Int32) (xL4 : Int32), F_X10_fall_L33 sL pL0 xL2 f xL3 xL4 k93 = some r → J G d m_X10_fall 33 [(0, .ref pL0), (1, .int xL1), (2, .int xL2), (3, .int xL3), (4, .int xL4)] [] sL (.inl (some (.int r.1))) r.2 := by
  intro f
  induction f with
  | zero => intro xL3 xL4 h; rw [F_X10_fall_L33] at h; cases h
  | succ f ih =>
    intro xL3 xL4 h
    rw [F_X10_fall_L33] at h
    refine r_iload (dc_X10_fall 20 rfl) rfl ?_
    refine r_aload_n (dc_X10_fall 21 rfl) rfl rfl ?_
    obtain ⟨p5, e0, h⟩ := Option.bind_eq_some_iff.mp h
    refine r_getR (dc_X10_fall 22 rfl) fl_RX10_14 e0 ?_
    refine r_iconst (dc_X10_fall 23 rfl) kiconst_2 ?_
    obtain ⟨x6, e0, h⟩ := Option.bind_eq_some_iff.mp h
    refine r_iald (dc_X10_fall 24 rfl) e0 ?_
    refine r_icmp_ge (dc_X10_fall 25 rfl) (tgt := 93) (by decide) (fun c0 => ?_) (fun c0 => ?_)
    · rw [if_pos c0] at h
      refine r_pick [0, 1, 3] (lo' := [(0, .ref pL0), (1, .int xL1), (3, .int xL3)]) rfl ?_
      exact hk93 _ h
    · rw [if_neg c0] at h
      refine r_iload_n (dc_X10_fall 26 rfl) rfl rfl ?_
      refine r_aload_n (dc_X10_fall 27 rfl) rfl rfl ?_
      refine r_iload_n (dc_X10_fall 28 rfl) rfl rfl ?_
      refine r_bipush (dc_X10_fall 29 rfl) kbipush_25 ?_
      refine r_iadd (dc_X10_fall 30 rfl) ?_
      refine r_iload (dc_X10_fall 31 rfl) rfl ?_
      obtain ⟨x7, e0, h⟩ := Option.bind_eq_some_iff.mp h
      refine r_callV (dc_X10_fall 32 rfl) mv_X10_isOf ml_RX10_70 (As := [.int (xL2 + (25 : Int32)), .int xL4]) (t_X10_isOf (d := d - 1) hl (by omega) e0) (by omega) rfl (Nat.le_of_ble_eq_true rfl) ?_
      refine jn_elim h (Q := fun (j : Int32 → Option (Int32 × Sto)) => ∀ (x9 : Int32), j x9 = some r → J G d m_X10_fall 82 [(0, .ref pL0), (1, .int xL1), (2, .int xL2), (4, .int xL4)] [.int x9, .int xL3] sL (.inl (some (.int r.1))) r.2) ?_ (fun j8 hj8 h => ?_)
      · intro x9 h
        obtain ⟨x10, e0, h⟩ := Option.bind_eq_some_iff.mp h
        refine r_callS (dc_X10_fall 48 rfl) ms_X10_flag ml_RX10_74 (As := [.int x9]) (t_X10_flag (d := d - 1) hl (by omega) e0) (by omega) rfl (Nat.le_of_ble_eq_true rfl) ?_
        refine r_iadd (dc_X10_fall 49 rfl) ?_
        refine r_istore_n (dc_X10_fall 50 rfl) rfl (by decide) (lo' := [(3, .int (xL3 + x10)), (0, .ref pL0), (1, .int xL1), (2, .int xL2), (4, .int xL4)]) rfl ?_
        refine r_iinc (dc_X10_fall 51 rfl) rfl (kinc_1 _) (by decide) (lo' := [(4, .int (xL4 + (1 : Int32))), (3, .int (xL3 + x10)), (0, .ref pL0), (1, .int xL1), (2, .int xL2)]) rfl ?_
        refine r_goto (dc_X10_fall 52 rfl) (tgt := 33) (by decide) ?_
        refine r_pick [2, 3, 4, 1, 0] (lo' := [(0, .ref pL0), (1, .int xL1), (2, .int xL2), (3, .int (xL3 + x10)), (4, .int (xL4 + (1 : Int32)))]) rfl ?_
        exact ih _ _ h
      refine r_if_eq (dc_X10_fall 33 rfl) (tgt := 81) (by decide) (fun c0 => ?_) (fun c0 => ?_)
      · rw [if_pos c0] at h
        refine r_iconst (dc_X10_fall 47 rfl) kiconst_0 ?_
        refine r_pick [0, 1, 2, 4] (lo' := [(0, .ref pL0), (1, .int xL1), (2, .int xL2), (4, .int xL4)]) rfl ?_
        exact hj8 _ h
      · rw [if_neg c0] at h
        refine r_aload_n (dc_X10_fall 34 rfl) rfl rfl ?_
        refine r_iload_n (dc_X10_fall 35 rfl) rfl rfl ?_
        refine r_sipush (dc_X10_fall 36 rfl) ksipush_395 ?_
        refine r_iadd (dc_X10_fall 37 rfl) ?_
        refine r_iconst (dc_X10_fall 38 rfl) kiconst_1 ?_
        refine r_isub (dc_X10_fall 39 rfl) ?_
        refine r_bipush (dc_X10_fall 40 rfl) kbipush_25 ?_
        refine r_iadd (dc_X10_fall 41 rfl) ?_
        refine r_iload (dc_X10_fall 42 rfl) rfl ?_
        obtain ⟨x11, e0, h⟩ := Option.bind_eq_some_iff.mp h
        refine r_callV (dc_X10_fall 43 rfl) mv_X10_isOf ml_RX10_70 (As := [.int (((xL2 + (395 : Int32)) - (1 : Int32)) + (25 : Int32)), .int xL4]) (t_X10_isOf (d := d - 1) hl (by omega) e0) (by omega) rfl (Nat.le_of_ble_eq_true rfl) ?_
        refine r_if_ne (dc_X10_fall 44 rfl) (tgt := 81) (by decide) (fun c0 => ?_) (fun c0 => ?_)
        · rw [if_neg c0] at h
          refine r_iconst (dc_X10_fall 47 rfl) kiconst_0 ?_
          refine r_pick [0, 1, 2, 4] (lo' := [(0, .ref pL0), (1, .int xL1), (2, .int xL2), (4, .int xL4)]) rfl ?_
          exact hj8 _ h
        · rw [if_pos c0] at h
          refine r_iconst (dc_X10_fall 45 rfl) kiconst_1 ?_
          refine r_goto (dc_X10_fall 46 rfl) (tgt := 82) (by decide) ?_
          refine r_pick [0, 1, 2, 4] (lo' := [(0, .ref pL0), (1, .int xL1), (2, .int xL2), (4, .int xL4)]) rfl ?_
          exact hj8 _ h
theorem t_X10_fall {G : Gx} {d : Nat} (hl : G.1.stackTraces = false) (hd : 3 ≤ d) {σ : Sto} {a0 : Nat} {xa1 : Int32} {r : (Int32 × Sto)} (h : F_X10_fall σ a0 xa1 = some r) : Mi G d m_X10_fall 10 a0 [.int xa1] σ (.inl (some (.int r.1))) r.2 := by
  rw [F_X10_fall] at h
  obtain ⟨hg, h⟩ := chk_some h
  refine ⟨J.toMt (lo := [(0, .ref a0), (1, .int xa1)]) pn_RX10 rfl hl (Nat.le_of_ble_eq_true rfl) rfl ?_, hg⟩
  refine r_aload_n (dc_X10_fall 0 rfl) rfl rfl ?_
  refine r_iconst (dc_X10_fall 1 rfl) kiconst_0 ?_
  obtain ⟨s1, e0, h⟩ := Option.bind_eq_some_iff.mp h
  refine r_put (dc_X10_fall 2 rfl) pl_RX10_1 rfl e0 ?_
  refine r_aload_n (dc_X10_fall 3 rfl) rfl rfl ?_
  refine r_iload_n (dc_X10_fall 4 rfl) rfl rfl ?_
  obtain ⟨x2, e0, h⟩ := Option.bind_eq_some_iff.mp h
  refine r_callV (dc_X10_fall 5 rfl) mv_X10_isSite ml_RX10_93 (As := [.int xa1]) (t_X10_isSite (d := d - 1) hl (by omega) e0) (by omega) rfl (Nat.le_of_ble_eq_true rfl) ?_
  refine r_if_ne (dc_X10_fall 6 rfl) (tgt := 19) (by decide) (fun c0 => ?_) (fun c0 => ?_)
  · rw [if_neg c0] at h
    refine r_aload_n (dc_X10_fall 11 rfl) rfl rfl ?_
    obtain ⟨s3, e0, h⟩ := Option.bind_eq_some_iff.mp h
    refine r_callV (dc_X10_fall 12 rfl) mv_X10_steps ml_RX10_141 (As := []) (t_X10_steps (d := d - 1) hl (by omega) e0) (by omega) rfl (Nat.le_of_ble_eq_true rfl) ?_
    refine r_iload_n (dc_X10_fall 13 rfl) rfl rfl ?_
    obtain ⟨x4, e0, h⟩ := Option.bind_eq_some_iff.mp h
    refine r_callS (dc_X10_fall 14 rfl) ms_X10_stateOf ml_RX10_111 (As := [.int xa1]) (t_X10_stateOf (d := d - 1) hl (by omega) e0) (by omega) rfl (Nat.le_of_ble_eq_true rfl) ?_
    refine r_istore_n (dc_X10_fall 15 rfl) rfl (by decide) (lo' := [(2, .int x4), (0, .ref a0), (1, .int xa1)]) rfl ?_
    refine r_iconst (dc_X10_fall 16 rfl) kiconst_0 ?_
    refine r_istore_n (dc_X10_fall 17 rfl) rfl (by decide) (lo' := [(3, .int (0 : Int32)), (2, .int x4), (0, .ref a0), (1, .int xa1)]) rfl ?_
    refine r_iconst (dc_X10_fall 18 rfl) kiconst_0 ?_
    refine r_istore (dc_X10_fall 19 rfl) (by decide) (lo' := [(4, .int (0 : Int32)), (3, .int (0 : Int32)), (2, .int x4), (0, .ref a0), (1, .int xa1)]) rfl ?_
    refine r_pick [3, 4, 2, 1, 0] (lo' := [(0, .ref a0), (1, .int xa1), (2, .int x4), (3, .int (0 : Int32)), (4, .int (0 : Int32))]) rfl ?_
    refine l_X10_fall_L33 hl hd (hk93 := ?_) fu _ _ h
    · intro x12 h
      refine r_aload_n (dc_X10_fall 53 rfl) rfl rfl ?_
      refine r_iload_n (dc_X10_fall 54 rfl) rfl rfl ?_
      obtain ⟨s13, e0, h⟩ := Option.bind_eq_some_iff.mp h
      refine r_callV (dc_X10_fall 55 rfl) mv_X10_falls ml_RX10_242 (As := [.int xa1]) (t_X10_falls (d := d - 1) hl (by omega) e0) (by omega) rfl (Nat.le_of_ble_eq_true rfl) ?_
      refine r_aload_n (dc_X10_fall 56 rfl) rfl rfl ?_
      refine r_bipush (dc_X10_fall 57 rfl) kbipush_7 ?_
      refine r_iload_n (dc_X10_fall 58 rfl) rfl rfl ?_
      refine r_iload_n (dc_X10_fall 59 rfl) rfl rfl ?_
      obtain ⟨x15, s14, e0, h⟩ := wb_some h
      refine r_callV (dc_X10_fall 60 rfl) mv_X10_notes ml_RX10_148 (As := [.int (7 : Int32), .int xa1, .int x12]) (t_X10_notes (d := d - 1) hl (by omega) e0) (by omega) rfl (Nat.le_of_ble_eq_true rfl) ?_
      cases h
      exact r_ireturn (dc_X10_fall 61 rfl) rfl
  · rw [if_pos c0] at h
    refine r_aload_n (dc_X10_fall 7 rfl) rfl rfl ?_
    refine r_iconst (dc_X10_fall 8 rfl) kiconst_1 ?_
    obtain ⟨x17, s16, e0, h⟩ := wb_some h
    refine r_callV (dc_X10_fall 9 rfl) mv_X10_fails ml_RX10_101 (As := [.int (1 : Int32)]) (t_X10_fails (d := d - 1) hl (by omega) e0) (by omega) rfl (Nat.le_of_ble_eq_true rfl) ?_
    cases h
    exact r_ireturn (dc_X10_fall 10 rfl) rfl
theorem l_X10_joins_L14 {G : Gx} {d : Nat} (hl : G.1.stackTraces = false) (hd : 3 ≤ d) {pL0 : Nat} {xL1 : Int32} {xL2 : Int32} {xL3 : Int32} {xL4 : Int32} {r : Sto} {k52 : Sto → Option Sto}
    (hk52 : ∀ (sL : Sto), k52 sL = some r → J G d m_X10_joins 52 [(0, .ref pL0), (1, .int xL1), (2, .int xL2), (3, .int xL3), (4, .int xL4)] [] sL (.inl none) r)
  : ∀ (f : Nat) (xL5 : Int32) (sL : Sto), F_X10_joins_L14 pL0 xL1 xL2 xL4 f xL5 sL k52 = some r → J G d m_X10_joins 14 [(0, .ref pL0), (1, .int xL1), (2, .int xL2), (3, .int xL3), (4, .int xL4), (5, .int xL5)] [] sL (.inl none) r := by
  intro f
  induction f with
  | zero => intro xL5 sL h; rw [F_X10_joins_L14] at h; cases h
  | succ f ih =>
    intro xL5 sL h
    rw [F_X10_joins_L14] at h
    refine r_iload (dc_X10_joins 8 rfl) rfl ?_
    refine r_aload_n (dc_X10_joins 9 rfl) rfl rfl ?_
    refine r_iconst (dc_X10_joins 10 rfl) kiconst_2 ?_
    obtain ⟨x3, e0, h⟩ := Option.bind_eq_some_iff.mp h
    refine r_callV (dc_X10_joins 11 rfl) mv_X10_of ml_RX10_62 (As := [.int (2 : Int32)]) (t_X10_of (d := d - 1) hl (by omega) e0) (by omega) rfl (Nat.le_of_ble_eq_true rfl) ?_
    refine r_icmp_ge (dc_X10_joins 12 rfl) (tgt := 52) (by decide) (fun c0 => ?_) (fun c0 => ?_)
    · rw [if_pos c0] at h
      refine r_pick [0, 1, 2, 3, 4] (lo' := [(0, .ref pL0), (1, .int xL1), (2, .int xL2), (3, .int xL3), (4, .int xL4)]) rfl ?_
      exact hk52 _ h
    · rw [if_neg c0] at h
      refine r_aload_n (dc_X10_joins 13 rfl) rfl rfl ?_
      refine r_iload (dc_X10_joins 14 rfl) rfl ?_
      refine r_bipush (dc_X10_joins 15 rfl) kbipush_25 ?_
      refine r_iadd (dc_X10_joins 16 rfl) ?_
      refine r_iload (dc_X10_joins 17 rfl) rfl ?_
      obtain ⟨x4, e0, h⟩ := Option.bind_eq_some_iff.mp h
      refine r_callV (dc_X10_joins 18 rfl) mv_X10_isOf ml_RX10_70 (As := [.int (xL4 + (25 : Int32)), .int xL5]) (t_X10_isOf (d := d - 1) hl (by omega) e0) (by omega) rfl (Nat.le_of_ble_eq_true rfl) ?_
      refine r_if_eq (dc_X10_joins 19 rfl) (tgt := 46) (by decide) (fun c0 => ?_) (fun c0 => ?_)
      · rw [if_pos c0] at h
        refine r_iinc (dc_X10_joins 25 rfl) rfl (kinc_1 _) (by decide) (lo' := [(5, .int (xL5 + (1 : Int32))), (0, .ref pL0), (1, .int xL1), (2, .int xL2), (3, .int xL3), (4, .int xL4)]) rfl ?_
        refine r_goto (dc_X10_joins 26 rfl) (tgt := 14) (by decide) ?_
        refine r_pick [1, 2, 3, 4, 5, 0] (lo' := [(0, .ref pL0), (1, .int xL1), (2, .int xL2), (3, .int xL3), (4, .int xL4), (5, .int (xL5 + (1 : Int32)))]) rfl ?_
        exact ih _ _ h
      · rw [if_neg c0] at h
        refine r_aload_n (dc_X10_joins 20 rfl) rfl rfl ?_
        refine r_iload_n (dc_X10_joins 21 rfl) rfl rfl ?_
        refine r_iload (dc_X10_joins 22 rfl) rfl ?_
        refine r_iload_n (dc_X10_joins 23 rfl) rfl rfl ?_
        obtain ⟨s5, e0, h⟩ := Option.bind_eq_some_iff.mp h
        refine r_callV (dc_X10_joins 24 rfl) mv_X10_comesToHave ml_RX10_137 (As := [.int xL1, .int xL5, .int xL2]) (t_X10_comesToHave (d := d - 1) hl (by omega) e0) (by omega) rfl (Nat.le_of_ble_eq_true rfl) ?_
        refine r_iinc (dc_X10_joins 25 rfl) rfl (kinc_1 _) (by decide) (lo' := [(5, .int (xL5 + (1 : Int32))), (0, .ref pL0), (1, .int xL1), (2, .int xL2), (3, .int xL3), (4, .int xL4)]) rfl ?_
        refine r_goto (dc_X10_joins 26 rfl) (tgt := 14) (by decide) ?_
        refine r_pick [1, 2, 3, 4, 5, 0] (lo' := [(0, .ref pL0), (1, .int xL1), (2, .int xL2), (3, .int xL3), (4, .int xL4), (5, .int (xL5 + (1 : Int32)))]) rfl ?_
        exact ih _ _ h
