theorem l_X10_laysRanks_L2 {G : Gx} {d : Nat} (hl : G.1.stackTraces = false) (hd : 3 ≤ d) {pL0 : Nat} {xL1 : Int32} {r : Sto} {k109 : Sto → Option Sto}
    (hk109 : ∀ (sL : Sto), k109 sL = some r → J G d m_X10_laysRanks 109 [(0, .ref pL0), (1, .int xL1)] [] sL (.inl none) r)
  : ∀ (f : Nat) (xL2 : Int32) (sL : Sto), F_X10_laysRanks_L2 pL0 xL1 f xL2 sL k109 = some r → J G d m_X10_laysRanks 2 [(0, .ref pL0), (1, .int xL1), (2, .int xL2)] [] sL (.inl none) r := by
  intro f
  induction f with
  | zero => intro xL2 sL h; rw [F_X10_laysRanks_L2] at h; cases h
  | succ f ih =>
    intro xL2 sL h
    rw [F_X10_laysRanks_L2] at h
    refine r_iload_n (dc_X10_laysRanks 2 rfl) rfl rfl ?_
    refine r_aload_n (dc_X10_laysRanks 3 rfl) rfl rfl ?_
    obtain ⟨p1, e0, h⟩ := Option.bind_eq_some_iff.mp h
    refine r_getR (dc_X10_laysRanks 4 rfl) fl_RX10_14 e0 ?_
    refine r_iconst (dc_X10_laysRanks 5 rfl) kiconst_2 ?_
    obtain ⟨x2, e0, h⟩ := Option.bind_eq_some_iff.mp h
    refine r_iald (dc_X10_laysRanks 6 rfl) e0 ?_
    refine r_icmp_ge (dc_X10_laysRanks 7 rfl) (tgt := 109) (by decide) (fun c0 => ?_) (fun c0 => ?_)
    · rw [if_pos c0] at h
      refine r_pick [0, 1] (lo' := [(0, .ref pL0), (1, .int xL1)]) rfl ?_
      exact hk109 _ h
    · rw [if_neg c0] at h
      refine r_aload_n (dc_X10_laysRanks 8 rfl) rfl rfl ?_
      obtain ⟨p3, e0, h⟩ := Option.bind_eq_some_iff.mp h
      refine r_getR (dc_X10_laysRanks 9 rfl) fl_RX10_31 e0 ?_
      refine r_iload_n (dc_X10_laysRanks 10 rfl) rfl rfl ?_
      obtain ⟨x4, e0, h⟩ := Option.bind_eq_some_iff.mp h
      refine r_iald (dc_X10_laysRanks 11 rfl) e0 ?_
      refine r_iload_n (dc_X10_laysRanks 12 rfl) rfl rfl ?_
      refine r_icmp_eq (dc_X10_laysRanks 13 rfl) (tgt := 25) (by decide) (fun c0 => ?_) (fun c0 => ?_)
      · rw [if_pos c0] at h
        refine r_aload_n (dc_X10_laysRanks 15 rfl) rfl rfl ?_
        obtain ⟨p5, e0, h⟩ := Option.bind_eq_some_iff.mp h
        refine r_getR (dc_X10_laysRanks 16 rfl) fl_RX10_34 e0 ?_
        refine r_iload_n (dc_X10_laysRanks 17 rfl) rfl rfl ?_
        refine r_iconst (dc_X10_laysRanks 18 rfl) kiconst_m1 ?_
        obtain ⟨s6, e0, h⟩ := Option.bind_eq_some_iff.mp h
        refine r_iast (dc_X10_laysRanks 19 rfl) e0 ?_
        refine r_iconst (dc_X10_laysRanks 20 rfl) kiconst_0 ?_
        refine r_istore_n (dc_X10_laysRanks 21 rfl) rfl (by decide) (lo' := [(3, .int (0 : Int32)), (0, .ref pL0), (1, .int xL1), (2, .int xL2)]) rfl ?_
        refine r_pick [1, 2, 3, 0] (lo' := [(0, .ref pL0), (1, .int xL1), (2, .int xL2), (3, .int (0 : Int32))]) rfl ?_
        refine l_X10_laysRanks_L34 hl hd (hk103 := ?_) fu _ _ h
        · intro s22 h
          refine r_iinc (dc_X10_laysRanks 63 rfl) rfl (kinc_1 _) (by decide) (lo' := [(2, .int (xL2 + (1 : Int32))), (0, .ref pL0), (1, .int xL1)]) rfl ?_
          refine r_goto (dc_X10_laysRanks 64 rfl) (tgt := 2) (by decide) ?_
          refine r_pick [1, 2, 0] (lo' := [(0, .ref pL0), (1, .int xL1), (2, .int (xL2 + (1 : Int32)))]) rfl ?_
          exact ih _ _ h
      · rw [if_neg c0] at h
        refine r_goto (dc_X10_laysRanks 14 rfl) (tgt := 103) (by decide) ?_
        refine r_iinc (dc_X10_laysRanks 63 rfl) rfl (kinc_1 _) (by decide) (lo' := [(2, .int (xL2 + (1 : Int32))), (0, .ref pL0), (1, .int xL1)]) rfl ?_
        refine r_goto (dc_X10_laysRanks 64 rfl) (tgt := 2) (by decide) ?_
        refine r_pick [1, 2, 0] (lo' := [(0, .ref pL0), (1, .int xL1), (2, .int (xL2 + (1 : Int32)))]) rfl ?_
        exact ih _ _ h
theorem l_X10_laysRanks_L143 {G : Gx} {d : Nat} (hl : G.1.stackTraces = false) (hd : 3 ≤ d) {pL0 : Nat} {xL1 : Int32} {xL2 : Int32} {r : Sto} {k195 : Sto → Option Sto}
    (hk195 : ∀ (sL : Sto), k195 sL = some r → J G d m_X10_laysRanks 195 [(0, .ref pL0), (1, .int xL1), (2, .int xL2)] [] sL (.inl none) r)
  : ∀ (f : Nat) (xL3 : Int32) (sL : Sto), F_X10_laysRanks_L143 pL0 xL1 xL2 f xL3 sL k195 = some r → J G d m_X10_laysRanks 143 [(0, .ref pL0), (1, .int xL1), (2, .int xL2), (3, .int xL3)] [] sL (.inl none) r := by
  intro f
  induction f with
  | zero => intro xL3 sL h; rw [F_X10_laysRanks_L143] at h; cases h
  | succ f ih =>
    intro xL3 sL h
    rw [F_X10_laysRanks_L143] at h
    refine r_iload_n (dc_X10_laysRanks 87 rfl) rfl rfl ?_
    refine r_aload_n (dc_X10_laysRanks 88 rfl) rfl rfl ?_
    obtain ⟨p30, e0, h⟩ := Option.bind_eq_some_iff.mp h
    refine r_getR (dc_X10_laysRanks 89 rfl) fl_RX10_14 e0 ?_
    refine r_iconst (dc_X10_laysRanks 90 rfl) kiconst_2 ?_
    obtain ⟨x31, e0, h⟩ := Option.bind_eq_some_iff.mp h
    refine r_iald (dc_X10_laysRanks 91 rfl) e0 ?_
    refine r_icmp_ge (dc_X10_laysRanks 92 rfl) (tgt := 195) (by decide) (fun c0 => ?_) (fun c0 => ?_)
    · rw [if_pos c0] at h
      refine r_pick [0, 1, 2] (lo' := [(0, .ref pL0), (1, .int xL1), (2, .int xL2)]) rfl ?_
      exact hk195 _ h
    · rw [if_neg c0] at h
      refine r_aload_n (dc_X10_laysRanks 93 rfl) rfl rfl ?_
      obtain ⟨p32, e0, h⟩ := Option.bind_eq_some_iff.mp h
      refine r_getR (dc_X10_laysRanks 94 rfl) fl_RX10_37 e0 ?_
      refine r_iload_n (dc_X10_laysRanks 95 rfl) rfl rfl ?_
      refine r_dup2 (dc_X10_laysRanks 96 rfl) rfl rfl ?_
      obtain ⟨x33, e0, h⟩ := Option.bind_eq_some_iff.mp h
      refine r_iald (dc_X10_laysRanks 97 rfl) e0 ?_
      refine r_aload_n (dc_X10_laysRanks 98 rfl) rfl rfl ?_
      obtain ⟨p34, e0, h⟩ := Option.bind_eq_some_iff.mp h
      refine r_getR (dc_X10_laysRanks 99 rfl) fl_RX10_31 e0 ?_
      refine r_iload_n (dc_X10_laysRanks 100 rfl) rfl rfl ?_
      obtain ⟨x35, e0, h⟩ := Option.bind_eq_some_iff.mp h
      refine r_iald (dc_X10_laysRanks 101 rfl) e0 ?_
      refine r_iload_n (dc_X10_laysRanks 102 rfl) rfl rfl ?_
      refine jn_elim h (Q := fun (j : Int32 → Option Sto) => ∀ (x37 : Int32), j x37 = some r → J G d m_X10_laysRanks 184 [(0, .ref pL0), (1, .int xL1), (2, .int xL2), (3, .int xL3)] [.int x37, .int x33, .int xL2, .ref p32] sL (.inl none) r) ?_ (fun j36 hj36 h => ?_)
      · intro x37 h
        obtain ⟨x38, e0, h⟩ := Option.bind_eq_some_iff.mp h
        refine r_callS (dc_X10_laysRanks 112 rfl) ms_X10_flag ml_RX10_74 (As := [.int x37]) (t_X10_flag (d := d - 1) hl (by omega) e0) (by omega) rfl (Nat.le_of_ble_eq_true rfl) ?_
        refine r_iadd (dc_X10_laysRanks 113 rfl) ?_
        obtain ⟨s39, e0, h⟩ := Option.bind_eq_some_iff.mp h
        refine r_iast (dc_X10_laysRanks 114 rfl) e0 ?_
        refine r_iinc (dc_X10_laysRanks 115 rfl) rfl (kinc_1 _) (by decide) (lo' := [(3, .int (xL3 + (1 : Int32))), (0, .ref pL0), (1, .int xL1), (2, .int xL2)]) rfl ?_
        refine r_goto (dc_X10_laysRanks 116 rfl) (tgt := 143) (by decide) ?_
        refine r_pick [1, 2, 3, 0] (lo' := [(0, .ref pL0), (1, .int xL1), (2, .int xL2), (3, .int (xL3 + (1 : Int32)))]) rfl ?_
        exact ih _ _ h
      refine r_icmp_ne (dc_X10_laysRanks 103 rfl) (tgt := 183) (by decide) (fun c0 => ?_) (fun c0 => ?_)
      · rw [if_neg c0] at h
        refine r_iconst (dc_X10_laysRanks 111 rfl) kiconst_0 ?_
        exact hj36 _ h
      · rw [if_pos c0] at h
        refine r_aload_n (dc_X10_laysRanks 104 rfl) rfl rfl ?_
        refine r_iload_n (dc_X10_laysRanks 105 rfl) rfl rfl ?_
        refine r_iload_n (dc_X10_laysRanks 106 rfl) rfl rfl ?_
        obtain ⟨x40, e0, h⟩ := Option.bind_eq_some_iff.mp h
        refine r_callV (dc_X10_laysRanks 107 rfl) mv_X10_isBefore ml_RX10_313 (As := [.int xL3, .int xL2]) (t_X10_isBefore (d := d - 1) hl (by omega) e0) (by omega) rfl (Nat.le_of_ble_eq_true rfl) ?_
        refine r_if_eq (dc_X10_laysRanks 108 rfl) (tgt := 183) (by decide) (fun c0 => ?_) (fun c0 => ?_)
        · rw [if_pos c0] at h
          refine r_iconst (dc_X10_laysRanks 111 rfl) kiconst_0 ?_
          exact hj36 _ h
        · rw [if_neg c0] at h
          refine r_iconst (dc_X10_laysRanks 109 rfl) kiconst_1 ?_
          refine r_goto (dc_X10_laysRanks 110 rfl) (tgt := 184) (by decide) ?_
          exact hj36 _ h
theorem l_X10_laysRanks_L111 {G : Gx} {d : Nat} (hl : G.1.stackTraces = false) (hd : 3 ≤ d) {pL0 : Nat} {xL1 : Int32} {r : Sto} {k201 : Sto → Option Sto}
    (hk201 : ∀ (sL : Sto), k201 sL = some r → J G d m_X10_laysRanks 201 [] [] sL (.inl none) r)
  : ∀ (f : Nat) (xL2 : Int32) (sL : Sto), F_X10_laysRanks_L111 pL0 xL1 f xL2 sL k201 = some r → J G d m_X10_laysRanks 111 [(0, .ref pL0), (1, .int xL1), (2, .int xL2)] [] sL (.inl none) r := by
  intro f
  induction f with
  | zero => intro xL2 sL h; rw [F_X10_laysRanks_L111] at h; cases h
  | succ f ih =>
    intro xL2 sL h
    rw [F_X10_laysRanks_L111] at h
    refine r_iload_n (dc_X10_laysRanks 67 rfl) rfl rfl ?_
    refine r_aload_n (dc_X10_laysRanks 68 rfl) rfl rfl ?_
    obtain ⟨p24, e0, h⟩ := Option.bind_eq_some_iff.mp h
    refine r_getR (dc_X10_laysRanks 69 rfl) fl_RX10_14 e0 ?_
    refine r_iconst (dc_X10_laysRanks 70 rfl) kiconst_2 ?_
    obtain ⟨x25, e0, h⟩ := Option.bind_eq_some_iff.mp h
    refine r_iald (dc_X10_laysRanks 71 rfl) e0 ?_
    refine r_icmp_ge (dc_X10_laysRanks 72 rfl) (tgt := 201) (by decide) (fun c0 => ?_) (fun c0 => ?_)
    · rw [if_pos c0] at h
      refine r_pick [] (lo' := []) rfl ?_
      exact hk201 _ h
    · rw [if_neg c0] at h
      refine r_aload_n (dc_X10_laysRanks 73 rfl) rfl rfl ?_
      obtain ⟨p26, e0, h⟩ := Option.bind_eq_some_iff.mp h
      refine r_getR (dc_X10_laysRanks 74 rfl) fl_RX10_31 e0 ?_
      refine r_iload_n (dc_X10_laysRanks 75 rfl) rfl rfl ?_
      obtain ⟨x27, e0, h⟩ := Option.bind_eq_some_iff.mp h
      refine r_iald (dc_X10_laysRanks 76 rfl) e0 ?_
      refine r_iload_n (dc_X10_laysRanks 77 rfl) rfl rfl ?_
      refine r_icmp_eq (dc_X10_laysRanks 78 rfl) (tgt := 134) (by decide) (fun c0 => ?_) (fun c0 => ?_)
      · rw [if_pos c0] at h
        refine r_aload_n (dc_X10_laysRanks 80 rfl) rfl rfl ?_
        obtain ⟨p28, e0, h⟩ := Option.bind_eq_some_iff.mp h
        refine r_getR (dc_X10_laysRanks 81 rfl) fl_RX10_37 e0 ?_
        refine r_iload_n (dc_X10_laysRanks 82 rfl) rfl rfl ?_
        refine r_iconst (dc_X10_laysRanks 83 rfl) kiconst_0 ?_
        obtain ⟨s29, e0, h⟩ := Option.bind_eq_some_iff.mp h
        refine r_iast (dc_X10_laysRanks 84 rfl) e0 ?_
        refine r_iconst (dc_X10_laysRanks 85 rfl) kiconst_0 ?_
        refine r_istore_n (dc_X10_laysRanks 86 rfl) rfl (by decide) (lo' := [(3, .int (0 : Int32)), (0, .ref pL0), (1, .int xL1), (2, .int xL2)]) rfl ?_
        refine r_pick [1, 2, 3, 0] (lo' := [(0, .ref pL0), (1, .int xL1), (2, .int xL2), (3, .int (0 : Int32))]) rfl ?_
        refine l_X10_laysRanks_L143 hl hd (hk195 := ?_) fu _ _ h
        · intro s41 h
          refine r_iinc (dc_X10_laysRanks 117 rfl) rfl (kinc_1 _) (by decide) (lo' := [(2, .int (xL2 + (1 : Int32))), (0, .ref pL0), (1, .int xL1)]) rfl ?_
          refine r_goto (dc_X10_laysRanks 118 rfl) (tgt := 111) (by decide) ?_
          refine r_pick [1, 2, 0] (lo' := [(0, .ref pL0), (1, .int xL1), (2, .int (xL2 + (1 : Int32)))]) rfl ?_
          exact ih _ _ h
      · rw [if_neg c0] at h
        refine r_goto (dc_X10_laysRanks 79 rfl) (tgt := 195) (by decide) ?_
        refine r_iinc (dc_X10_laysRanks 117 rfl) rfl (kinc_1 _) (by decide) (lo' := [(2, .int (xL2 + (1 : Int32))), (0, .ref pL0), (1, .int xL1)]) rfl ?_
        refine r_goto (dc_X10_laysRanks 118 rfl) (tgt := 111) (by decide) ?_
        refine r_pick [1, 2, 0] (lo' := [(0, .ref pL0), (1, .int xL1), (2, .int (xL2 + (1 : Int32)))]) rfl ?_
        exact ih _ _ h
theorem t_X10_laysRanks {G : Gx} {d : Nat} (hl : G.1.stackTraces = false) (hd : 3 ≤ d) {σ : Sto} {a0 : Nat} {xa1 : Int32} {r : Sto} (h : F_X10_laysRanks σ a0 xa1 = some r) : Mi G d m_X10_laysRanks 10 a0 [.int xa1] σ (.inl none) r := by
  rw [F_X10_laysRanks] at h
  obtain ⟨hg, h⟩ := chk_some h
  refine ⟨J.toMt (lo := [(0, .ref a0), (1, .int xa1)]) pn_RX10 rfl hl (Nat.le_of_ble_eq_true rfl) rfl ?_, hg⟩
  refine r_iconst (dc_X10_laysRanks 0 rfl) kiconst_0 ?_
  refine r_istore_n (dc_X10_laysRanks 1 rfl) rfl (by decide) (lo' := [(2, .int (0 : Int32)), (0, .ref a0), (1, .int xa1)]) rfl ?_
  refine r_pick [1, 2, 0] (lo' := [(0, .ref a0), (1, .int xa1), (2, .int (0 : Int32))]) rfl ?_
  refine l_X10_laysRanks_L2 hl hd (hk109 := ?_) fu _ _ h
  · intro s23 h
    refine r_iconst (dc_X10_laysRanks 65 rfl) kiconst_0 ?_
    refine r_istore_n (dc_X10_laysRanks 66 rfl) rfl (by decide) (lo' := [(2, .int (0 : Int32)), (0, .ref a0), (1, .int xa1)]) rfl ?_
    refine r_pick [1, 2, 0] (lo' := [(0, .ref a0), (1, .int xa1), (2, .int (0 : Int32))]) rfl ?_
    refine l_X10_laysRanks_L111 hl hd (hk201 := ?_) fu _ _ h
    · intro s42 h
      cases h
      exact r_vreturn (dc_X10_laysRanks 119 rfl) rfl
theorem l_X10_laysHeights_L28 {G : Gx} {d : Nat} (hl : G.1.stackTraces = false) (hd : 4 ≤ d) {pL0 : Nat} {xL1 : Int32} {xL2 : Int32} {r : Sto} {k77 : Sto → Option Sto}
    (hk77 : ∀ (sL : Sto), k77 sL = some r → J G d m_X10_laysHeights 77 [(0, .ref pL0), (1, .int xL1), (2, .int xL2)] [] sL (.inl none) r)
  : ∀ (f : Nat) (xL3 : Int32) (sL : Sto), F_X10_laysHeights_L28 pL0 xL2 f xL3 sL k77 = some r → J G d m_X10_laysHeights 28 [(0, .ref pL0), (1, .int xL1), (2, .int xL2), (3, .int xL3)] [] sL (.inl none) r := by
  intro f
  induction f with
  | zero => intro xL3 sL h; rw [F_X10_laysHeights_L28] at h; cases h
  | succ f ih =>
    intro xL3 sL h
    rw [F_X10_laysHeights_L28] at h
    refine r_iload_n (dc_X10_laysHeights 20 rfl) rfl rfl ?_
    refine r_iload_n (dc_X10_laysHeights 21 rfl) rfl rfl ?_
    refine r_icmp_ge (dc_X10_laysHeights 22 rfl) (tgt := 77) (by decide) (fun c0 => ?_) (fun c0 => ?_)
    · rw [if_pos c0] at h
      refine r_pick [0, 1, 2] (lo' := [(0, .ref pL0), (1, .int xL1), (2, .int xL2)]) rfl ?_
      exact hk77 _ h
    · rw [if_neg c0] at h
      refine r_aload_n (dc_X10_laysHeights 23 rfl) rfl rfl ?_
      refine r_iload_n (dc_X10_laysHeights 24 rfl) rfl rfl ?_
      refine r_iload_n (dc_X10_laysHeights 25 rfl) rfl rfl ?_
      obtain ⟨x6, e0, h⟩ := Option.bind_eq_some_iff.mp h
      refine r_callV (dc_X10_laysHeights 26 rfl) mv_X10_isAhead ml_RX10_307 (As := [.int xL3, .int xL2]) (t_X10_isAhead (d := d - 1) hl (by omega) e0) (by omega) rfl (Nat.le_of_ble_eq_true rfl) ?_
      refine r_if_eq (dc_X10_laysHeights 27 rfl) (tgt := 71) (by decide) (fun c0 => ?_) (fun c0 => ?_)
      · rw [if_pos c0] at h
        refine r_iinc (dc_X10_laysHeights 47 rfl) rfl (kinc_1 _) (by decide) (lo' := [(3, .int (xL3 + (1 : Int32))), (0, .ref pL0), (1, .int xL1), (2, .int xL2)]) rfl ?_
        refine r_goto (dc_X10_laysHeights 48 rfl) (tgt := 28) (by decide) ?_
        refine r_pick [1, 2, 3, 0] (lo' := [(0, .ref pL0), (1, .int xL1), (2, .int xL2), (3, .int (xL3 + (1 : Int32)))]) rfl ?_
        exact ih _ _ h
      · rw [if_neg c0] at h
        refine r_aload_n (dc_X10_laysHeights 28 rfl) rfl rfl ?_
        obtain ⟨p7, e0, h⟩ := Option.bind_eq_some_iff.mp h
        refine r_getR (dc_X10_laysHeights 29 rfl) fl_RX10_31 e0 ?_
        refine r_iload_n (dc_X10_laysHeights 30 rfl) rfl rfl ?_
        obtain ⟨x8, e0, h⟩ := Option.bind_eq_some_iff.mp h
        refine r_iald (dc_X10_laysHeights 31 rfl) e0 ?_
        refine r_aload_n (dc_X10_laysHeights 32 rfl) rfl rfl ?_
        obtain ⟨p9, e0, h⟩ := Option.bind_eq_some_iff.mp h
        refine r_getR (dc_X10_laysHeights 33 rfl) fl_RX10_31 e0 ?_
        refine r_iload_n (dc_X10_laysHeights 34 rfl) rfl rfl ?_
        obtain ⟨x10, e0, h⟩ := Option.bind_eq_some_iff.mp h
        refine r_iald (dc_X10_laysHeights 35 rfl) e0 ?_
        refine r_icmp_lt (dc_X10_laysHeights 36 rfl) (tgt := 71) (by decide) (fun c0 => ?_) (fun c0 => ?_)
        · rw [if_pos c0] at h
          refine r_iinc (dc_X10_laysHeights 47 rfl) rfl (kinc_1 _) (by decide) (lo' := [(3, .int (xL3 + (1 : Int32))), (0, .ref pL0), (1, .int xL1), (2, .int xL2)]) rfl ?_
          refine r_goto (dc_X10_laysHeights 48 rfl) (tgt := 28) (by decide) ?_
          refine r_pick [1, 2, 3, 0] (lo' := [(0, .ref pL0), (1, .int xL1), (2, .int xL2), (3, .int (xL3 + (1 : Int32)))]) rfl ?_
          exact ih _ _ h
        · rw [if_neg c0] at h
          refine r_aload_n (dc_X10_laysHeights 37 rfl) rfl rfl ?_
          obtain ⟨p11, e0, h⟩ := Option.bind_eq_some_iff.mp h
          refine r_getR (dc_X10_laysHeights 38 rfl) fl_RX10_31 e0 ?_
          refine r_iload_n (dc_X10_laysHeights 39 rfl) rfl rfl ?_
          refine r_aload_n (dc_X10_laysHeights 40 rfl) rfl rfl ?_
          obtain ⟨p12, e0, h⟩ := Option.bind_eq_some_iff.mp h
          refine r_getR (dc_X10_laysHeights 41 rfl) fl_RX10_31 e0 ?_
          refine r_iload_n (dc_X10_laysHeights 42 rfl) rfl rfl ?_
          obtain ⟨x13, e0, h⟩ := Option.bind_eq_some_iff.mp h
          refine r_iald (dc_X10_laysHeights 43 rfl) e0 ?_
          refine r_iconst (dc_X10_laysHeights 44 rfl) kiconst_1 ?_
          refine r_iadd (dc_X10_laysHeights 45 rfl) ?_
          obtain ⟨s14, e0, h⟩ := Option.bind_eq_some_iff.mp h
          refine r_iast (dc_X10_laysHeights 46 rfl) e0 ?_
          refine r_iinc (dc_X10_laysHeights 47 rfl) rfl (kinc_1 _) (by decide) (lo' := [(3, .int (xL3 + (1 : Int32))), (0, .ref pL0), (1, .int xL1), (2, .int xL2)]) rfl ?_
          refine r_goto (dc_X10_laysHeights 48 rfl) (tgt := 28) (by decide) ?_
          refine r_pick [1, 2, 3, 0] (lo' := [(0, .ref pL0), (1, .int xL1), (2, .int xL2), (3, .int (xL3 + (1 : Int32)))]) rfl ?_
          exact ih _ _ h
theorem l_X10_laysHeights_L9 {G : Gx} {d : Nat} (hl : G.1.stackTraces = false) (hd : 4 ≤ d) {pL0 : Nat} {r : Sto} {k104 : Int32 → Sto → Option Sto}
    (hk104 : ∀ (xL1 : Int32) (sL : Sto), k104 xL1 sL = some r → J G d m_X10_laysHeights 104 [(0, .ref pL0), (1, .int xL1)] [] sL (.inl none) r)
  : ∀ (f : Nat) (xL1 : Int32) (xL2 : Int32) (sL : Sto), F_X10_laysHeights_L9 pL0 f xL1 xL2 sL k104 = some r → J G d m_X10_laysHeights 9 [(0, .ref pL0), (1, .int xL1), (2, .int xL2)] [] sL (.inl none) r := by
  intro f
  induction f with
  | zero => intro xL1 xL2 sL h; rw [F_X10_laysHeights_L9] at h; cases h
  | succ f ih =>
    intro xL1 xL2 sL h
    rw [F_X10_laysHeights_L9] at h
    refine r_iload_n (dc_X10_laysHeights 7 rfl) rfl rfl ?_
    refine r_aload_n (dc_X10_laysHeights 8 rfl) rfl rfl ?_
    obtain ⟨p2, e0, h⟩ := Option.bind_eq_some_iff.mp h
    refine r_getR (dc_X10_laysHeights 9 rfl) fl_RX10_14 e0 ?_
    refine r_iconst (dc_X10_laysHeights 10 rfl) kiconst_2 ?_
    obtain ⟨x3, e0, h⟩ := Option.bind_eq_some_iff.mp h
    refine r_iald (dc_X10_laysHeights 11 rfl) e0 ?_
    refine r_icmp_ge (dc_X10_laysHeights 12 rfl) (tgt := 104) (by decide) (fun c0 => ?_) (fun c0 => ?_)
    · rw [if_pos c0] at h
      refine r_pick [0, 1] (lo' := [(0, .ref pL0), (1, .int xL1)]) rfl ?_
      exact hk104 _ _ h
    · rw [if_neg c0] at h
      refine r_aload_n (dc_X10_laysHeights 13 rfl) rfl rfl ?_
      obtain ⟨p4, e0, h⟩ := Option.bind_eq_some_iff.mp h
      refine r_getR (dc_X10_laysHeights 14 rfl) fl_RX10_31 e0 ?_
      refine r_iload_n (dc_X10_laysHeights 15 rfl) rfl rfl ?_
      refine r_iconst (dc_X10_laysHeights 16 rfl) kiconst_1 ?_
      obtain ⟨s5, e0, h⟩ := Option.bind_eq_some_iff.mp h
      refine r_iast (dc_X10_laysHeights 17 rfl) e0 ?_
      refine r_iconst (dc_X10_laysHeights 18 rfl) kiconst_0 ?_
      refine r_istore_n (dc_X10_laysHeights 19 rfl) rfl (by decide) (lo' := [(3, .int (0 : Int32)), (0, .ref pL0), (1, .int xL1), (2, .int xL2)]) rfl ?_
      refine r_pick [1, 2, 3, 0] (lo' := [(0, .ref pL0), (1, .int xL1), (2, .int xL2), (3, .int (0 : Int32))]) rfl ?_
      refine l_X10_laysHeights_L28 hl hd (hk77 := ?_) fu _ _ h
      · intro s15 h
        refine r_aload_n (dc_X10_laysHeights 49 rfl) rfl rfl ?_
        obtain ⟨p16, e0, h⟩ := Option.bind_eq_some_iff.mp h
        refine r_getR (dc_X10_laysHeights 50 rfl) fl_RX10_31 e0 ?_
        refine r_iload_n (dc_X10_laysHeights 51 rfl) rfl rfl ?_
        obtain ⟨x17, e0, h⟩ := Option.bind_eq_some_iff.mp h
        refine r_iald (dc_X10_laysHeights 52 rfl) e0 ?_
        refine r_iload_n (dc_X10_laysHeights 53 rfl) rfl rfl ?_
        refine r_icmp_le (dc_X10_laysHeights 54 rfl) (tgt := 96) (by decide) (fun c0 => ?_) (fun c0 => ?_)
        · rw [if_pos c0] at h
          refine r_iload_n (dc_X10_laysHeights 60 rfl) rfl rfl ?_
          refine r_istore_n (dc_X10_laysHeights 61 rfl) rfl (by decide) (lo' := [(1, .int xL1), (0, .ref pL0), (2, .int xL2)]) rfl ?_
          refine r_iinc (dc_X10_laysHeights 62 rfl) rfl (kinc_1 _) (by decide) (lo' := [(2, .int (xL2 + (1 : Int32))), (1, .int xL1), (0, .ref pL0)]) rfl ?_
          refine r_goto (dc_X10_laysHeights 63 rfl) (tgt := 9) (by decide) ?_
          refine r_pick [2, 1, 0] (lo' := [(0, .ref pL0), (1, .int xL1), (2, .int (xL2 + (1 : Int32)))]) rfl ?_
          exact ih _ _ _ h
        · rw [if_neg c0] at h
          refine r_aload_n (dc_X10_laysHeights 55 rfl) rfl rfl ?_
          obtain ⟨p18, e0, h⟩ := Option.bind_eq_some_iff.mp h
          refine r_getR (dc_X10_laysHeights 56 rfl) fl_RX10_31 e0 ?_
          refine r_iload_n (dc_X10_laysHeights 57 rfl) rfl rfl ?_
          obtain ⟨x19, e0, h⟩ := Option.bind_eq_some_iff.mp h
          refine r_iald (dc_X10_laysHeights 58 rfl) e0 ?_
          refine r_goto (dc_X10_laysHeights 59 rfl) (tgt := 97) (by decide) ?_
          refine r_istore_n (dc_X10_laysHeights 61 rfl) rfl (by decide) (lo' := [(1, .int x19), (0, .ref pL0), (2, .int xL2)]) rfl ?_
          refine r_iinc (dc_X10_laysHeights 62 rfl) rfl (kinc_1 _) (by decide) (lo' := [(2, .int (xL2 + (1 : Int32))), (1, .int x19), (0, .ref pL0)]) rfl ?_
          refine r_goto (dc_X10_laysHeights 63 rfl) (tgt := 9) (by decide) ?_
          refine r_pick [2, 1, 0] (lo' := [(0, .ref pL0), (1, .int x19), (2, .int (xL2 + (1 : Int32)))]) rfl ?_
          exact ih _ _ _ h
theorem l_X10_laysHeights_L106 {G : Gx} {d : Nat} (hl : G.1.stackTraces = false) (hd : 4 ≤ d) {pL0 : Nat} {xL1 : Int32} {r : Sto} {k122 : Sto → Option Sto}
    (hk122 : ∀ (sL : Sto), k122 sL = some r → J G d m_X10_laysHeights 122 [] [] sL (.inl none) r)
  : ∀ (f : Nat) (xL2 : Int32) (sL : Sto), F_X10_laysHeights_L106 pL0 xL1 f xL2 sL k122 = some r → J G d m_X10_laysHeights 106 [(0, .ref pL0), (1, .int xL1), (2, .int xL2)] [] sL (.inl none) r := by
  intro f
  induction f with
  | zero => intro xL2 sL h; rw [F_X10_laysHeights_L106] at h; cases h
  | succ f ih =>
    intro xL2 sL h
    rw [F_X10_laysHeights_L106] at h
    refine r_iload_n (dc_X10_laysHeights 66 rfl) rfl rfl ?_
    refine r_iload_n (dc_X10_laysHeights 67 rfl) rfl rfl ?_
    refine r_icmp_gt (dc_X10_laysHeights 68 rfl) (tgt := 122) (by decide) (fun c0 => ?_) (fun c0 => ?_)
    · rw [if_pos c0] at h
      refine r_pick [] (lo' := []) rfl ?_
      exact hk122 _ h
    · rw [if_neg c0] at h
      refine r_aload_n (dc_X10_laysHeights 69 rfl) rfl rfl ?_
      refine r_iload_n (dc_X10_laysHeights 70 rfl) rfl rfl ?_
      obtain ⟨s22, e0, h⟩ := Option.bind_eq_some_iff.mp h
      refine r_callV (dc_X10_laysHeights 71 rfl) mv_X10_laysRanks ml_RX10_310 (As := [.int xL2]) (t_X10_laysRanks (d := d - 1) hl (by omega) e0) (by omega) rfl (Nat.le_of_ble_eq_true rfl) ?_
      refine r_iinc (dc_X10_laysHeights 72 rfl) rfl (kinc_1 _) (by decide) (lo' := [(2, .int (xL2 + (1 : Int32))), (0, .ref pL0), (1, .int xL1)]) rfl ?_
      refine r_goto (dc_X10_laysHeights 73 rfl) (tgt := 106) (by decide) ?_
      refine r_pick [1, 2, 0] (lo' := [(0, .ref pL0), (1, .int xL1), (2, .int (xL2 + (1 : Int32)))]) rfl ?_
      exact ih _ _ h
theorem t_X10_laysHeights {G : Gx} {d : Nat} (hl : G.1.stackTraces = false) (hd : 4 ≤ d) {σ : Sto} {a0 : Nat} {r : Sto} (h : F_X10_laysHeights σ a0 = some r) : Mi G d m_X10_laysHeights 10 a0 [] σ (.inl none) r := by
  rw [F_X10_laysHeights] at h
  obtain ⟨hg, h⟩ := chk_some h
  refine ⟨J.toMt (lo := [(0, .ref a0)]) pn_RX10 rfl hl (Nat.le_of_ble_eq_true rfl) rfl ?_, hg⟩
  refine r_aload_n (dc_X10_laysHeights 0 rfl) rfl rfl ?_
  refine r_iconst (dc_X10_laysHeights 1 rfl) kiconst_0 ?_
  obtain ⟨s1, e0, h⟩ := Option.bind_eq_some_iff.mp h
  refine r_put (dc_X10_laysHeights 2 rfl) pl_RX10_59 rfl e0 ?_
  refine r_iconst (dc_X10_laysHeights 3 rfl) kiconst_0 ?_
  refine r_istore_n (dc_X10_laysHeights 4 rfl) rfl (by decide) (lo' := [(1, .int (0 : Int32)), (0, .ref a0)]) rfl ?_
  refine r_iconst (dc_X10_laysHeights 5 rfl) kiconst_0 ?_
  refine r_istore_n (dc_X10_laysHeights 6 rfl) rfl (by decide) (lo' := [(2, .int (0 : Int32)), (1, .int (0 : Int32)), (0, .ref a0)]) rfl ?_
  refine r_pick [2, 1, 0] (lo' := [(0, .ref a0), (1, .int (0 : Int32)), (2, .int (0 : Int32))]) rfl ?_
  refine l_X10_laysHeights_L9 hl hd (hk104 := ?_) fu _ _ _ h
  · intro x20 s21 h
    refine r_iconst (dc_X10_laysHeights 64 rfl) kiconst_1 ?_
    refine r_istore_n (dc_X10_laysHeights 65 rfl) rfl (by decide) (lo' := [(2, .int (1 : Int32)), (0, .ref a0), (1, .int x20)]) rfl ?_
    refine r_pick [1, 2, 0] (lo' := [(0, .ref a0), (1, .int x20), (2, .int (1 : Int32))]) rfl ?_
    refine l_X10_laysHeights_L106 hl hd (hk122 := ?_) fu _ _ h
    · intro s23 h
      cases h
      exact r_vreturn (dc_X10_laysHeights 74 rfl) rfl
theorem t_X10_isConcurrent {G : Gx} {d : Nat} (hl : G.1.stackTraces = false) (hd : 3 ≤ d) {σ : Sto} {a0 : Nat} {xa1 : Int32} {xa2 : Int32} {r : Int32} (h : F_X10_isConcurrent σ a0 xa1 xa2 = some r) : Mi G d m_X10_isConcurrent 10 a0 [.int xa1, .int xa2] σ (.inl (some (.int r))) σ := by
  rw [F_X10_isConcurrent] at h
  obtain ⟨hg, h⟩ := chk_some h
  refine ⟨J.toMt (lo := [(0, .ref a0), (1, .int xa1), (2, .int xa2)]) pn_RX10 rfl hl (Nat.le_of_ble_eq_true rfl) rfl ?_, hg⟩
  refine r_iload_n (dc_X10_isConcurrent 0 rfl) rfl rfl ?_
  refine r_iload_n (dc_X10_isConcurrent 1 rfl) rfl rfl ?_
  refine r_icmp_eq (dc_X10_isConcurrent 2 rfl) (tgt := 27) (by decide) (fun c0 => ?_) (fun c0 => ?_)
  · rw [if_pos c0] at h
    refine r_iconst (dc_X10_isConcurrent 15 rfl) kiconst_0 ?_
    cases h
    exact r_zreturn (dc_X10_isConcurrent 16 rfl) rfl (Or.inl rfl)
  · rw [if_neg c0] at h
    refine r_aload_n (dc_X10_isConcurrent 3 rfl) rfl rfl ?_
    refine r_iload_n (dc_X10_isConcurrent 4 rfl) rfl rfl ?_
    refine r_iload_n (dc_X10_isConcurrent 5 rfl) rfl rfl ?_
    obtain ⟨x1, e0, h⟩ := Option.bind_eq_some_iff.mp h
    refine r_callV (dc_X10_isConcurrent 6 rfl) mv_X10_isAhead ml_RX10_307 (As := [.int xa1, .int xa2]) (t_X10_isAhead (d := d - 1) hl (by omega) e0) (by omega) rfl (Nat.le_of_ble_eq_true rfl) ?_
    refine r_if_ne (dc_X10_isConcurrent 7 rfl) (tgt := 27) (by decide) (fun c0 => ?_) (fun c0 => ?_)
    · rw [if_neg c0] at h
      refine r_iconst (dc_X10_isConcurrent 15 rfl) kiconst_0 ?_
      cases h
      exact r_zreturn (dc_X10_isConcurrent 16 rfl) rfl (Or.inl rfl)
    · rw [if_pos c0] at h
      refine r_aload_n (dc_X10_isConcurrent 8 rfl) rfl rfl ?_
      refine r_iload_n (dc_X10_isConcurrent 9 rfl) rfl rfl ?_
      refine r_iload_n (dc_X10_isConcurrent 10 rfl) rfl rfl ?_
      obtain ⟨x2, e0, h⟩ := Option.bind_eq_some_iff.mp h
      refine r_callV (dc_X10_isConcurrent 11 rfl) mv_X10_isAhead ml_RX10_307 (As := [.int xa2, .int xa1]) (t_X10_isAhead (d := d - 1) hl (by omega) e0) (by omega) rfl (Nat.le_of_ble_eq_true rfl) ?_
      refine r_if_ne (dc_X10_isConcurrent 12 rfl) (tgt := 27) (by decide) (fun c0 => ?_) (fun c0 => ?_)
      · rw [if_neg c0] at h
        refine r_iconst (dc_X10_isConcurrent 15 rfl) kiconst_0 ?_
        cases h
        exact r_zreturn (dc_X10_isConcurrent 16 rfl) rfl (Or.inl rfl)
      · rw [if_pos c0] at h
        refine r_iconst (dc_X10_isConcurrent 13 rfl) kiconst_1 ?_
        refine r_goto (dc_X10_isConcurrent 14 rfl) (tgt := 28) (by decide) ?_
        cases h
        exact r_zreturn (dc_X10_isConcurrent 16 rfl) rfl (Or.inr rfl)
theorem l_X10_concurrentOf_L4 {G : Gx} {d : Nat} (hl : G.1.stackTraces = false) (hd : 4 ≤ d) {sL : Sto} {pL0 : Nat} {xL1 : Int32} {r : Int32} {k32 : Int32 → Option Int32}
    (hk32 : ∀ (xL2 : Int32), k32 xL2 = some r → J G d m_X10_concurrentOf 32 [(2, .int xL2)] [] sL (.inl (some (.int r))) sL)
  : ∀ (f : Nat) (xL2 : Int32) (xL3 : Int32), F_X10_concurrentOf_L4 sL pL0 xL1 f xL2 xL3 k32 = some r → J G d m_X10_concurrentOf 4 [(0, .ref pL0), (1, .int xL1), (2, .int xL2), (3, .int xL3)] [] sL (.inl (some (.int r))) sL := by
  intro f
  induction f with
  | zero => intro xL2 xL3 h; rw [F_X10_concurrentOf_L4] at h; cases h
  | succ f ih =>
    intro xL2 xL3 h
    rw [F_X10_concurrentOf_L4] at h
    refine r_iload_n (dc_X10_concurrentOf 4 rfl) rfl rfl ?_
    refine r_aload_n (dc_X10_concurrentOf 5 rfl) rfl rfl ?_
    obtain ⟨p1, e0, h⟩ := Option.bind_eq_some_iff.mp h
    refine r_getR (dc_X10_concurrentOf 6 rfl) fl_RX10_14 e0 ?_
    refine r_iconst (dc_X10_concurrentOf 7 rfl) kiconst_2 ?_
    obtain ⟨x2, e0, h⟩ := Option.bind_eq_some_iff.mp h
    refine r_iald (dc_X10_concurrentOf 8 rfl) e0 ?_
    refine r_icmp_ge (dc_X10_concurrentOf 9 rfl) (tgt := 32) (by decide) (fun c0 => ?_) (fun c0 => ?_)
    · rw [if_pos c0] at h
      refine r_pick [2] (lo' := [(2, .int xL2)]) rfl ?_
      exact hk32 _ h
    · rw [if_neg c0] at h
      refine r_iload_n (dc_X10_concurrentOf 10 rfl) rfl rfl ?_
      refine r_aload_n (dc_X10_concurrentOf 11 rfl) rfl rfl ?_
      refine r_iload_n (dc_X10_concurrentOf 12 rfl) rfl rfl ?_
      refine r_iload_n (dc_X10_concurrentOf 13 rfl) rfl rfl ?_
      obtain ⟨x3, e0, h⟩ := Option.bind_eq_some_iff.mp h
      refine r_callV (dc_X10_concurrentOf 14 rfl) mv_X10_isConcurrent ml_RX10_316 (As := [.int xL1, .int xL3]) (t_X10_isConcurrent (d := d - 1) hl (by omega) e0) (by omega) rfl (Nat.le_of_ble_eq_true rfl) ?_
      obtain ⟨x4, e0, h⟩ := Option.bind_eq_some_iff.mp h
      refine r_callS (dc_X10_concurrentOf 15 rfl) ms_X10_flag ml_RX10_74 (As := [.int x3]) (t_X10_flag (d := d - 1) hl (by omega) e0) (by omega) rfl (Nat.le_of_ble_eq_true rfl) ?_
      refine r_iadd (dc_X10_concurrentOf 16 rfl) ?_
      refine r_istore_n (dc_X10_concurrentOf 17 rfl) rfl (by decide) (lo' := [(2, .int (xL2 + x4)), (0, .ref pL0), (1, .int xL1), (3, .int xL3)]) rfl ?_
      refine r_iinc (dc_X10_concurrentOf 18 rfl) rfl (kinc_1 _) (by decide) (lo' := [(3, .int (xL3 + (1 : Int32))), (2, .int (xL2 + x4)), (0, .ref pL0), (1, .int xL1)]) rfl ?_
      refine r_goto (dc_X10_concurrentOf 19 rfl) (tgt := 4) (by decide) ?_
      refine r_pick [2, 3, 1, 0] (lo' := [(0, .ref pL0), (1, .int xL1), (2, .int (xL2 + x4)), (3, .int (xL3 + (1 : Int32)))]) rfl ?_
      exact ih _ _ h
theorem t_X10_concurrentOf {G : Gx} {d : Nat} (hl : G.1.stackTraces = false) (hd : 4 ≤ d) {σ : Sto} {a0 : Nat} {xa1 : Int32} {r : Int32} (h : F_X10_concurrentOf σ a0 xa1 = some r) : Mi G d m_X10_concurrentOf 10 a0 [.int xa1] σ (.inl (some (.int r))) σ := by
  rw [F_X10_concurrentOf] at h
  obtain ⟨hg, h⟩ := chk_some h
  refine ⟨J.toMt (lo := [(0, .ref a0), (1, .int xa1)]) pn_RX10 rfl hl (Nat.le_of_ble_eq_true rfl) rfl ?_, hg⟩
  refine r_iconst (dc_X10_concurrentOf 0 rfl) kiconst_0 ?_
  refine r_istore_n (dc_X10_concurrentOf 1 rfl) rfl (by decide) (lo' := [(2, .int (0 : Int32)), (0, .ref a0), (1, .int xa1)]) rfl ?_
  refine r_iconst (dc_X10_concurrentOf 2 rfl) kiconst_0 ?_
  refine r_istore_n (dc_X10_concurrentOf 3 rfl) rfl (by decide) (lo' := [(3, .int (0 : Int32)), (2, .int (0 : Int32)), (0, .ref a0), (1, .int xa1)]) rfl ?_
  refine r_pick [2, 3, 1, 0] (lo' := [(0, .ref a0), (1, .int xa1), (2, .int (0 : Int32)), (3, .int (0 : Int32))]) rfl ?_
  refine l_X10_concurrentOf_L4 hl hd (hk32 := ?_) fu _ _ h
  · intro x5 h
    refine r_iload_n (dc_X10_concurrentOf 20 rfl) rfl rfl ?_
    cases h
    exact r_ireturn (dc_X10_concurrentOf 21 rfl) rfl
theorem t_X10_heightOf {G : Gx} {d : Nat} (hl : G.1.stackTraces = false) (hd : 5 ≤ d) {σ : Sto} {a0 : Nat} {xa1 : Int32} {r : (Int32 × Sto)} (h : F_X10_heightOf σ a0 xa1 = some r) : Mi G d m_X10_heightOf 10 a0 [.int xa1] σ (.inl (some (.int r.1))) r.2 := by
  rw [F_X10_heightOf] at h
  obtain ⟨hg, h⟩ := chk_some h
  refine ⟨J.toMt (lo := [(0, .ref a0), (1, .int xa1)]) pn_RX10 rfl hl (Nat.le_of_ble_eq_true rfl) rfl ?_, hg⟩
  refine r_aload_n (dc_X10_heightOf 0 rfl) rfl rfl ?_
  obtain ⟨s1, e0, h⟩ := Option.bind_eq_some_iff.mp h
  refine r_callV (dc_X10_heightOf 1 rfl) mv_X10_laysHeights ml_RX10_319 (As := []) (t_X10_laysHeights (d := d - 1) hl (by omega) e0) (by omega) rfl (Nat.le_of_ble_eq_true rfl) ?_
  refine r_aload_n (dc_X10_heightOf 2 rfl) rfl rfl ?_
  obtain ⟨p2, e0, h⟩ := Option.bind_eq_some_iff.mp h
  refine r_getR (dc_X10_heightOf 3 rfl) fl_RX10_31 e0 ?_
  refine r_iload_n (dc_X10_heightOf 4 rfl) rfl rfl ?_
  obtain ⟨x3, e0, h⟩ := Option.bind_eq_some_iff.mp h
  refine r_iald (dc_X10_heightOf 5 rfl) e0 ?_
  cases h
  exact r_ireturn (dc_X10_heightOf 6 rfl) rfl
theorem l_X10_event_L83 {G : Gx} {d : Nat} (hl : G.1.stackTraces = false) (hd : 6 ≤ d) {sL : Sto} {pL0 : Nat} {xL1 : Int32} {r : (Int32 × Sto)} {k114 : Int32 → Option (Int32 × Sto)}
    (hk114 : ∀ (xL3 : Int32), k114 xL3 = some r → J G d m_X10_event 114 [(3, .int xL3)] [] sL (.inl (some (.int r.1))) r.2)
  : ∀ (f : Nat) (xL3 : Int32) (xL4 : Int32), F_X10_event_L83 sL pL0 xL1 f xL3 xL4 k114 = some r → J G d m_X10_event 83 [(0, .ref pL0), (1, .int xL1), (3, .int xL3), (4, .int xL4)] [] sL (.inl (some (.int r.1))) r.2 := by
  intro f
  induction f with
  | zero => intro xL3 xL4 h; rw [F_X10_event_L83] at h; cases h
  | succ f ih =>
    intro xL3 xL4 h
    rw [F_X10_event_L83] at h
    refine r_iload (dc_X10_event 34 rfl) rfl ?_
    refine r_aload_n (dc_X10_event 35 rfl) rfl rfl ?_
    obtain ⟨p5, e0, h⟩ := Option.bind_eq_some_iff.mp h
    refine r_getR (dc_X10_event 36 rfl) fl_RX10_14 e0 ?_
    refine r_iconst (dc_X10_event 37 rfl) kiconst_0 ?_
    obtain ⟨x6, e0, h⟩ := Option.bind_eq_some_iff.mp h
    refine r_iald (dc_X10_event 38 rfl) e0 ?_
    refine r_icmp_ge (dc_X10_event 39 rfl) (tgt := 114) (by decide) (fun c0 => ?_) (fun c0 => ?_)
    · rw [if_pos c0] at h
      refine r_pick [2] (lo' := [(3, .int xL3)]) rfl ?_
      exact hk114 _ h
    · rw [if_neg c0] at h
      refine r_iload_n (dc_X10_event 40 rfl) rfl rfl ?_
      refine r_aload_n (dc_X10_event 41 rfl) rfl rfl ?_
      refine r_iload (dc_X10_event 42 rfl) rfl ?_
      refine r_iload_n (dc_X10_event 43 rfl) rfl rfl ?_
      refine r_iconst (dc_X10_event 44 rfl) kiconst_1 ?_
      obtain ⟨x7, e0, h⟩ := Option.bind_eq_some_iff.mp h
      refine r_callV (dc_X10_event 45 rfl) mv_X10_doesHave ml_RX10_226 (As := [.int xL4, .int xL1, .int (1 : Int32)]) (t_X10_doesHave (d := d - 1) hl (by omega) e0) (by omega) rfl (Nat.le_of_ble_eq_true rfl) ?_
      obtain ⟨x8, e0, h⟩ := Option.bind_eq_some_iff.mp h
      refine r_callS (dc_X10_event 46 rfl) ms_X10_flag ml_RX10_74 (As := [.int x7]) (t_X10_flag (d := d - 1) hl (by omega) e0) (by omega) rfl (Nat.le_of_ble_eq_true rfl) ?_
      refine r_iadd (dc_X10_event 47 rfl) ?_
      refine r_istore_n (dc_X10_event 48 rfl) rfl (by decide) (lo' := [(3, .int (xL3 + x8)), (0, .ref pL0), (1, .int xL1), (4, .int xL4)]) rfl ?_
      refine r_iinc (dc_X10_event 49 rfl) rfl (kinc_1 _) (by decide) (lo' := [(4, .int (xL4 + (1 : Int32))), (3, .int (xL3 + x8)), (0, .ref pL0), (1, .int xL1)]) rfl ?_
      refine r_goto (dc_X10_event 50 rfl) (tgt := 83) (by decide) ?_
      refine r_pick [2, 3, 1, 0] (lo' := [(0, .ref pL0), (1, .int xL1), (3, .int (xL3 + x8)), (4, .int (xL4 + (1 : Int32)))]) rfl ?_
      exact ih _ _ h
theorem l_X10_event_L119 {G : Gx} {d : Nat} (hl : G.1.stackTraces = false) (hd : 6 ≤ d) {sL : Sto} {pL0 : Nat} {xL1 : Int32} {r : (Int32 × Sto)} {k149 : Int32 → Option (Int32 × Sto)}
    (hk149 : ∀ (xL3 : Int32), k149 xL3 = some r → J G d m_X10_event 149 [(3, .int xL3)] [] sL (.inl (some (.int r.1))) r.2)
  : ∀ (f : Nat) (xL3 : Int32) (xL4 : Int32), F_X10_event_L119 sL pL0 xL1 f xL3 xL4 k149 = some r → J G d m_X10_event 119 [(0, .ref pL0), (1, .int xL1), (3, .int xL3), (4, .int xL4)] [] sL (.inl (some (.int r.1))) r.2 := by
  intro f
  induction f with
  | zero => intro xL3 xL4 h; rw [F_X10_event_L119] at h; cases h
  | succ f ih =>
    intro xL3 xL4 h
    rw [F_X10_event_L119] at h
    refine r_iload (dc_X10_event 55 rfl) rfl ?_
    refine r_aload_n (dc_X10_event 56 rfl) rfl rfl ?_
    obtain ⟨p10, e0, h⟩ := Option.bind_eq_some_iff.mp h
    refine r_getR (dc_X10_event 57 rfl) fl_RX10_14 e0 ?_
    refine r_iconst (dc_X10_event 58 rfl) kiconst_0 ?_
    obtain ⟨x11, e0, h⟩ := Option.bind_eq_some_iff.mp h
    refine r_iald (dc_X10_event 59 rfl) e0 ?_
    refine r_icmp_ge (dc_X10_event 60 rfl) (tgt := 149) (by decide) (fun c0 => ?_) (fun c0 => ?_)
    · rw [if_pos c0] at h
      refine r_pick [2] (lo' := [(3, .int xL3)]) rfl ?_
      exact hk149 _ h
    · rw [if_neg c0] at h
      refine r_iload_n (dc_X10_event 61 rfl) rfl rfl ?_
      refine r_aload_n (dc_X10_event 62 rfl) rfl rfl ?_
      refine r_iload (dc_X10_event 63 rfl) rfl ?_
      refine r_iload_n (dc_X10_event 64 rfl) rfl rfl ?_
      obtain ⟨x12, e0, h⟩ := Option.bind_eq_some_iff.mp h
      refine r_callV (dc_X10_event 65 rfl) mv_X10_isLogged ml_RX10_290 (As := [.int xL4, .int xL1]) (t_X10_isLogged (d := d - 1) hl (by omega) e0) (by omega) rfl (Nat.le_of_ble_eq_true rfl) ?_
      obtain ⟨x13, e0, h⟩ := Option.bind_eq_some_iff.mp h
      refine r_callS (dc_X10_event 66 rfl) ms_X10_flag ml_RX10_74 (As := [.int x12]) (t_X10_flag (d := d - 1) hl (by omega) e0) (by omega) rfl (Nat.le_of_ble_eq_true rfl) ?_
      refine r_iadd (dc_X10_event 67 rfl) ?_
      refine r_istore_n (dc_X10_event 68 rfl) rfl (by decide) (lo' := [(3, .int (xL3 + x13)), (0, .ref pL0), (1, .int xL1), (4, .int xL4)]) rfl ?_
      refine r_iinc (dc_X10_event 69 rfl) rfl (kinc_1 _) (by decide) (lo' := [(4, .int (xL4 + (1 : Int32))), (3, .int (xL3 + x13)), (0, .ref pL0), (1, .int xL1)]) rfl ?_
      refine r_goto (dc_X10_event 70 rfl) (tgt := 119) (by decide) ?_
      refine r_pick [2, 3, 1, 0] (lo' := [(0, .ref pL0), (1, .int xL1), (3, .int (xL3 + x13)), (4, .int (xL4 + (1 : Int32)))]) rfl ?_
      exact ih _ _ h
theorem t_X10_event {G : Gx} {d : Nat} (hl : G.1.stackTraces = false) (hd : 6 ≤ d) {σ : Sto} {a0 : Nat} {xa1 : Int32} {xa2 : Int32} {r : (Int32 × Sto)} (h : F_X10_event σ a0 xa1 xa2 = some r) : Mi G d m_X10_event 10 a0 [.int xa1, .int xa2] σ (.inl (some (.int r.1))) r.2 := by
  rw [F_X10_event] at h
  obtain ⟨hg, h⟩ := chk_some h
  refine ⟨J.toMt (lo := [(0, .ref a0), (1, .int xa1), (2, .int xa2)]) pn_RX10 rfl hl (Nat.le_of_ble_eq_true rfl) rfl ?_, hg⟩
  refine r_aload_n (dc_X10_event 0 rfl) rfl rfl ?_
  refine r_iconst (dc_X10_event 1 rfl) kiconst_0 ?_
  obtain ⟨s1, e0, h⟩ := Option.bind_eq_some_iff.mp h
  refine r_put (dc_X10_event 2 rfl) pl_RX10_1 rfl e0 ?_
  refine r_aload_n (dc_X10_event 3 rfl) rfl rfl ?_
  refine r_iconst (dc_X10_event 4 rfl) kiconst_0 ?_
  obtain ⟨s2, e0, h⟩ := Option.bind_eq_some_iff.mp h
  refine r_put (dc_X10_event 5 rfl) pl_RX10_59 rfl e0 ?_
  refine r_aload_n (dc_X10_event 6 rfl) rfl rfl ?_
  refine r_iload_n (dc_X10_event 7 rfl) rfl rfl ?_
  obtain ⟨x3, e0, h⟩ := Option.bind_eq_some_iff.mp h
  refine r_callV (dc_X10_event 8 rfl) mv_X10_isEvent ml_RX10_156 (As := [.int xa1]) (t_X10_isEvent (d := d - 1) hl (by omega) e0) (by omega) rfl (Nat.le_of_ble_eq_true rfl) ?_
  refine r_if_ne (dc_X10_event 9 rfl) (tgt := 24) (by decide) (fun c0 => ?_) (fun c0 => ?_)
  · rw [if_neg c0] at h
    refine r_iload_n (dc_X10_event 14 rfl) rfl rfl ?_
    refine r_i2l (dc_X10_event 15 rfl) ?_
    refine r_lconst (dc_X10_event 16 rfl) klconst_0 ?_
    refine r_ldc2 (dc_X10_event 17 rfl) ck_RX10_322 ?_
    obtain ⟨x4, e0, h⟩ := Option.bind_eq_some_iff.mp h
    refine r_callS (dc_X10_event 18 rfl) ms_X10_isIn ml_RX10_89 (As := [.long xa2.toInt64, .long (0 : Int64), .long (4 : Int64)]) (t_X10_isIn (d := d - 1) hl (by omega) e0) (by omega) rfl (Nat.le_of_ble_eq_true rfl) ?_
    refine r_if_eq (dc_X10_event 19 rfl) (tgt := 48) (by decide) (fun c0 => ?_) (fun c0 => ?_)
    · rw [if_pos c0] at h
      refine r_iconst (dc_X10_event 28 rfl) kiconst_0 ?_
      refine r_istore_n (dc_X10_event 29 rfl) rfl (by decide) (lo' := [(3, .int (0 : Int32)), (0, .ref a0), (1, .int xa1), (2, .int xa2)]) rfl ?_
      refine r_iload_n (dc_X10_event 30 rfl) rfl rfl ?_
      by_cases c0 : xa2 = (5 : Int32)
      · rw [if_pos c0] at h
        refine r_tsInE c0 (dc_X10_event 31 rfl) (tgt := 80) (off := 29) (by decide) (by decide) (by decide) (by decide) ?_
        refine r_iconst (dc_X10_event 32 rfl) kiconst_0 ?_
        refine r_istore (dc_X10_event 33 rfl) (by decide) (lo' := [(4, .int (0 : Int32)), (3, .int (0 : Int32)), (0, .ref a0), (1, .int xa1), (2, .int xa2)]) rfl ?_
        refine r_pick [2, 3, 1, 0] (lo' := [(0, .ref a0), (1, .int xa1), (3, .int (0 : Int32)), (4, .int (0 : Int32))]) rfl ?_
        refine l_X10_event_L83 hl hd (hk114 := ?_) fu _ _ h
        · intro x9 h
          refine r_iload_n (dc_X10_event 51 rfl) rfl rfl ?_
          cases h
          exact r_ireturn (dc_X10_event 52 rfl) rfl
      rw [if_neg c0] at h
      by_cases c1 : xa2 = (6 : Int32)
      · rw [if_pos c1] at h
        refine r_tsInE c1 (dc_X10_event 31 rfl) (tgt := 116) (off := 65) (by decide) (by decide) (by decide) (by decide) ?_
        refine r_iconst (dc_X10_event 53 rfl) kiconst_0 ?_
        refine r_istore (dc_X10_event 54 rfl) (by decide) (lo' := [(4, .int (0 : Int32)), (3, .int (0 : Int32)), (0, .ref a0), (1, .int xa1), (2, .int xa2)]) rfl ?_
        refine r_pick [2, 3, 1, 0] (lo' := [(0, .ref a0), (1, .int xa1), (3, .int (0 : Int32)), (4, .int (0 : Int32))]) rfl ?_
        refine l_X10_event_L119 hl hd (hk149 := ?_) fu _ _ h
        · intro x14 h
          refine r_iload_n (dc_X10_event 71 rfl) rfl rfl ?_
          cases h
          exact r_ireturn (dc_X10_event 72 rfl) rfl
      rw [if_neg c1] at h
      by_cases c2 : xa2 = (7 : Int32)
      · rw [if_pos c2] at h
        refine r_tsInE c2 (dc_X10_event 31 rfl) (tgt := 151) (off := 100) (by decide) (by decide) (by decide) (by decide) ?_
        refine r_aload_n (dc_X10_event 73 rfl) rfl rfl ?_
        refine r_iload_n (dc_X10_event 74 rfl) rfl rfl ?_
        obtain ⟨x16, s15, e0, h⟩ := wb_some h
        refine r_callV (dc_X10_event 75 rfl) mv_X10_heightOf ml_RX10_324 (As := [.int xa1]) (t_X10_heightOf (d := d - 1) hl (by omega) e0) (by omega) rfl (Nat.le_of_ble_eq_true rfl) ?_
        cases h
        exact r_ireturn (dc_X10_event 76 rfl) rfl
      rw [if_neg c2] at h
      by_cases c3 : xa2 = (8 : Int32)
      · rw [if_pos c3] at h
        refine r_tsInE c3 (dc_X10_event 31 rfl) (tgt := 157) (off := 106) (by decide) (by decide) (by decide) (by decide) ?_
        refine r_aload_n (dc_X10_event 77 rfl) rfl rfl ?_
        refine r_iload_n (dc_X10_event 78 rfl) rfl rfl ?_
        obtain ⟨x17, e0, h⟩ := Option.bind_eq_some_iff.mp h
        refine r_callV (dc_X10_event 79 rfl) mv_X10_concurrentOf ml_RX10_327 (As := [.int xa1]) (t_X10_concurrentOf (d := d - 1) hl (by omega) e0) (by omega) rfl (Nat.le_of_ble_eq_true rfl) ?_
        cases h
        exact r_ireturn (dc_X10_event 80 rfl) rfl
      rw [if_neg c3] at h
      refine r_tsOut (dc_X10_event 31 rfl) (tgt := 163) (ts_outL (n := 4) (lw := 5) (fun k hk => match k, hk with | 0, _ => c0 | 1, _ => c1 | 2, _ => c2 | 3, _ => c3 | k + 4, hk => absurd hk (by omega)) (by decide)) (by decide) ?_
      refine r_aload_n (dc_X10_event 81 rfl) rfl rfl ?_
      refine r_iconst (dc_X10_event 82 rfl) kiconst_2 ?_
      obtain ⟨x19, s18, e0, h⟩ := wb_some h
      refine r_callV (dc_X10_event 83 rfl) mv_X10_fails ml_RX10_101 (As := [.int (2 : Int32)]) (t_X10_fails (d := d - 1) hl (by omega) e0) (by omega) rfl (Nat.le_of_ble_eq_true rfl) ?_
      cases h
      exact r_ireturn (dc_X10_event 84 rfl) rfl
    · rw [if_neg c0] at h
      refine r_aload_n (dc_X10_event 20 rfl) rfl rfl ?_
      obtain ⟨p20, e0, h⟩ := Option.bind_eq_some_iff.mp h
      refine r_getR (dc_X10_event 21 rfl) fl_RX10_14 e0 ?_
      refine r_iload_n (dc_X10_event 22 rfl) rfl rfl ?_
      obtain ⟨x21, e0, h⟩ := Option.bind_eq_some_iff.mp h
      refine r_callS (dc_X10_event 23 rfl) ms_X10_eventOf ml_RX10_108 (As := [.int xa1]) (t_X10_eventOf (d := d - 1) hl (by omega) e0) (by omega) rfl (Nat.le_of_ble_eq_true rfl) ?_
      refine r_iload_n (dc_X10_event 24 rfl) rfl rfl ?_
      refine r_iadd (dc_X10_event 25 rfl) ?_
      obtain ⟨x22, e0, h⟩ := Option.bind_eq_some_iff.mp h
      refine r_iald (dc_X10_event 26 rfl) e0 ?_
      cases h
      exact r_ireturn (dc_X10_event 27 rfl) rfl
  · rw [if_pos c0] at h
    refine r_aload_n (dc_X10_event 10 rfl) rfl rfl ?_
    refine r_iconst (dc_X10_event 11 rfl) kiconst_1 ?_
    obtain ⟨x24, s23, e0, h⟩ := wb_some h
    refine r_callV (dc_X10_event 12 rfl) mv_X10_fails ml_RX10_101 (As := [.int (1 : Int32)]) (t_X10_fails (d := d - 1) hl (by omega) e0) (by omega) rfl (Nat.le_of_ble_eq_true rfl) ?_
    cases h
    exact r_ireturn (dc_X10_event 13 rfl) rfl
theorem t_X10_ahead {G : Gx} {d : Nat} (hl : G.1.stackTraces = false) (hd : 3 ≤ d) {σ : Sto} {a0 : Nat} {xa1 : Int32} {xa2 : Int32} {r : (Int32 × Sto)} (h : F_X10_ahead σ a0 xa1 xa2 = some r) : Mi G d m_X10_ahead 10 a0 [.int xa1, .int xa2] σ (.inl (some (.int r.1))) r.2 := by
  rw [F_X10_ahead] at h
  obtain ⟨hg, h⟩ := chk_some h
  refine ⟨J.toMt (lo := [(0, .ref a0), (1, .int xa1), (2, .int xa2)]) pn_RX10 rfl hl (Nat.le_of_ble_eq_true rfl) rfl ?_, hg⟩
  refine r_aload_n (dc_X10_ahead 0 rfl) rfl rfl ?_
  refine r_iconst (dc_X10_ahead 1 rfl) kiconst_0 ?_
  obtain ⟨s1, e0, h⟩ := Option.bind_eq_some_iff.mp h
  refine r_put (dc_X10_ahead 2 rfl) pl_RX10_1 rfl e0 ?_
  refine r_aload_n (dc_X10_ahead 3 rfl) rfl rfl ?_
  refine r_iconst (dc_X10_ahead 4 rfl) kiconst_0 ?_
  obtain ⟨s2, e0, h⟩ := Option.bind_eq_some_iff.mp h
  refine r_put (dc_X10_ahead 5 rfl) pl_RX10_59 rfl e0 ?_
  refine r_aload_n (dc_X10_ahead 6 rfl) rfl rfl ?_
  refine r_iload_n (dc_X10_ahead 7 rfl) rfl rfl ?_
  obtain ⟨x3, e0, h⟩ := Option.bind_eq_some_iff.mp h
  refine r_callV (dc_X10_ahead 8 rfl) mv_X10_isEvent ml_RX10_156 (As := [.int xa1]) (t_X10_isEvent (d := d - 1) hl (by omega) e0) (by omega) rfl (Nat.le_of_ble_eq_true rfl) ?_
  refine r_if_eq (dc_X10_ahead 9 rfl) (tgt := 26) (by decide) (fun c0 => ?_) (fun c0 => ?_)
  · rw [if_pos c0] at h
    refine r_aload_n (dc_X10_ahead 14 rfl) rfl rfl ?_
    refine r_iconst (dc_X10_ahead 15 rfl) kiconst_1 ?_
    obtain ⟨x5, s4, e0, h⟩ := wb_some h
    refine r_callV (dc_X10_ahead 16 rfl) mv_X10_fails ml_RX10_101 (As := [.int (1 : Int32)]) (t_X10_fails (d := d - 1) hl (by omega) e0) (by omega) rfl (Nat.le_of_ble_eq_true rfl) ?_
    refine r_if_eq (dc_X10_ahead 17 rfl) (tgt := 38) (by decide) (fun c0 => ?_) (fun c0 => ?_)
    · rw [if_pos c0] at h
      refine r_iconst (dc_X10_ahead 20 rfl) kiconst_0 ?_
      cases h
      exact r_zreturn (dc_X10_ahead 21 rfl) rfl (Or.inl rfl)
    · rw [if_neg c0] at h
      refine r_iconst (dc_X10_ahead 18 rfl) kiconst_1 ?_
      refine r_goto (dc_X10_ahead 19 rfl) (tgt := 39) (by decide) ?_
      cases h
      exact r_zreturn (dc_X10_ahead 21 rfl) rfl (Or.inr rfl)
  · rw [if_neg c0] at h
    refine r_aload_n (dc_X10_ahead 10 rfl) rfl rfl ?_
    refine r_iload_n (dc_X10_ahead 11 rfl) rfl rfl ?_
    obtain ⟨x6, e0, h⟩ := Option.bind_eq_some_iff.mp h
    refine r_callV (dc_X10_ahead 12 rfl) mv_X10_isEvent ml_RX10_156 (As := [.int xa2]) (t_X10_isEvent (d := d - 1) hl (by omega) e0) (by omega) rfl (Nat.le_of_ble_eq_true rfl) ?_
    refine r_if_ne (dc_X10_ahead 13 rfl) (tgt := 40) (by decide) (fun c0 => ?_) (fun c0 => ?_)
    · rw [if_neg c0] at h
      refine r_aload_n (dc_X10_ahead 22 rfl) rfl rfl ?_
      refine r_iload_n (dc_X10_ahead 23 rfl) rfl rfl ?_
      refine r_iload_n (dc_X10_ahead 24 rfl) rfl rfl ?_
      obtain ⟨x7, e0, h⟩ := Option.bind_eq_some_iff.mp h
      refine r_callV (dc_X10_ahead 25 rfl) mv_X10_isAhead ml_RX10_307 (As := [.int xa1, .int xa2]) (t_X10_isAhead (d := d - 1) hl (by omega) e0) (by omega) rfl (Nat.le_of_ble_eq_true rfl) ?_
      split at h
      · rename_i c0
        cases h
        exact r_zreturn (dc_X10_ahead 26 rfl) rfl c0
      · cases h
    · rw [if_pos c0] at h
      refine r_aload_n (dc_X10_ahead 14 rfl) rfl rfl ?_
      refine r_iconst (dc_X10_ahead 15 rfl) kiconst_1 ?_
      obtain ⟨x9, s8, e0, h⟩ := wb_some h
      refine r_callV (dc_X10_ahead 16 rfl) mv_X10_fails ml_RX10_101 (As := [.int (1 : Int32)]) (t_X10_fails (d := d - 1) hl (by omega) e0) (by omega) rfl (Nat.le_of_ble_eq_true rfl) ?_
      refine r_if_eq (dc_X10_ahead 17 rfl) (tgt := 38) (by decide) (fun c0 => ?_) (fun c0 => ?_)
      · rw [if_pos c0] at h
        refine r_iconst (dc_X10_ahead 20 rfl) kiconst_0 ?_
        cases h
        exact r_zreturn (dc_X10_ahead 21 rfl) rfl (Or.inl rfl)
      · rw [if_neg c0] at h
        refine r_iconst (dc_X10_ahead 18 rfl) kiconst_1 ?_
        refine r_goto (dc_X10_ahead 19 rfl) (tgt := 39) (by decide) ?_
        cases h
        exact r_zreturn (dc_X10_ahead 21 rfl) rfl (Or.inr rfl)
theorem l_X10_wide_L34 {G : Gx} {d : Nat} (hl : G.1.stackTraces = false) (hd : 5 ≤ d) {sL : Sto} {pL0 : Nat} {xL1 : Int32} {r : (Int32 × Sto)} {k84 : Int32 → Int32 → Option (Int32 × Sto)}
    (hk84 : ∀ (xL2 : Int32) (xL3 : Int32), k84 xL2 xL3 = some r → J G d m_X10_wide 84 [(0, .ref pL0), (1, .int xL1), (2, .int xL2), (3, .int xL3)] [] sL (.inl (some (.int r.1))) r.2)
  : ∀ (f : Nat) (xL2 : Int32) (xL3 : Int32) (xL4 : Int32), F_X10_wide_L34 sL pL0 f xL2 xL3 xL4 k84 = some r → J G d m_X10_wide 34 [(0, .ref pL0), (1, .int xL1), (2, .int xL2), (3, .int xL3), (4, .int xL4)] [] sL (.inl (some (.int r.1))) r.2 := by
  intro f
  induction f with
  | zero => intro xL2 xL3 xL4 h; rw [F_X10_wide_L34] at h; cases h
  | succ f ih =>
    intro xL2 xL3 xL4 h
    rw [F_X10_wide_L34] at h
    refine r_iload (dc_X10_wide 21 rfl) rfl ?_
    refine r_aload_n (dc_X10_wide 22 rfl) rfl rfl ?_
    obtain ⟨p4, e0, h⟩ := Option.bind_eq_some_iff.mp h
    refine r_getR (dc_X10_wide 23 rfl) fl_RX10_14 e0 ?_
    refine r_iconst (dc_X10_wide 24 rfl) kiconst_2 ?_
    obtain ⟨x5, e0, h⟩ := Option.bind_eq_some_iff.mp h
    refine r_iald (dc_X10_wide 25 rfl) e0 ?_
    refine r_icmp_ge (dc_X10_wide 26 rfl) (tgt := 84) (by decide) (fun c0 => ?_) (fun c0 => ?_)
    · rw [if_pos c0] at h
      refine r_pick [0, 1, 2, 3] (lo' := [(0, .ref pL0), (1, .int xL1), (2, .int xL2), (3, .int xL3)]) rfl ?_
      exact hk84 _ _ h
    · rw [if_neg c0] at h
      refine r_iload_n (dc_X10_wide 27 rfl) rfl rfl ?_
      refine r_aload_n (dc_X10_wide 28 rfl) rfl rfl ?_
      refine r_iload (dc_X10_wide 29 rfl) rfl ?_
      obtain ⟨x6, e0, h⟩ := Option.bind_eq_some_iff.mp h
      refine r_callV (dc_X10_wide 30 rfl) mv_X10_concurrentOf ml_RX10_327 (As := [.int xL4]) (t_X10_concurrentOf (d := d - 1) hl (by omega) e0) (by omega) rfl (Nat.le_of_ble_eq_true rfl) ?_
      refine r_iadd (dc_X10_wide 31 rfl) ?_
      refine r_istore_n (dc_X10_wide 32 rfl) rfl (by decide) (lo' := [(2, .int (xL2 + x6)), (0, .ref pL0), (1, .int xL1), (3, .int xL3), (4, .int xL4)]) rfl ?_
      refine r_iload_n (dc_X10_wide 33 rfl) rfl rfl ?_
      refine r_iconst (dc_X10_wide 34 rfl) kiconst_m1 ?_
      refine r_icmp_eq (dc_X10_wide 35 rfl) (tgt := 75) (by decide) (fun c0 => ?_) (fun c0 => ?_)
      · rw [if_pos c0] at h
        refine r_iload (dc_X10_wide 45 rfl) rfl ?_
        refine r_istore_n (dc_X10_wide 46 rfl) rfl (by decide) (lo' := [(3, .int xL4), (2, .int (xL2 + x6)), (0, .ref pL0), (1, .int xL1), (4, .int xL4)]) rfl ?_
        refine r_iinc (dc_X10_wide 47 rfl) rfl (kinc_1 _) (by decide) (lo' := [(4, .int (xL4 + (1 : Int32))), (3, .int xL4), (2, .int (xL2 + x6)), (0, .ref pL0), (1, .int xL1)]) rfl ?_
        refine r_goto (dc_X10_wide 48 rfl) (tgt := 34) (by decide) ?_
        refine r_pick [3, 4, 2, 1, 0] (lo' := [(0, .ref pL0), (1, .int xL1), (2, .int (xL2 + x6)), (3, .int xL4), (4, .int (xL4 + (1 : Int32)))]) rfl ?_
        exact ih _ _ _ h
      · rw [if_neg c0] at h
        refine r_aload_n (dc_X10_wide 36 rfl) rfl rfl ?_
        obtain ⟨p7, e0, h⟩ := Option.bind_eq_some_iff.mp h
        refine r_getR (dc_X10_wide 37 rfl) fl_RX10_31 e0 ?_
        refine r_iload (dc_X10_wide 38 rfl) rfl ?_
        obtain ⟨x8, e0, h⟩ := Option.bind_eq_some_iff.mp h
        refine r_iald (dc_X10_wide 39 rfl) e0 ?_
        refine r_aload_n (dc_X10_wide 40 rfl) rfl rfl ?_
        obtain ⟨p9, e0, h⟩ := Option.bind_eq_some_iff.mp h
        refine r_getR (dc_X10_wide 41 rfl) fl_RX10_31 e0 ?_
        refine r_iload_n (dc_X10_wide 42 rfl) rfl rfl ?_
        obtain ⟨x10, e0, h⟩ := Option.bind_eq_some_iff.mp h
        refine r_iald (dc_X10_wide 43 rfl) e0 ?_
        refine r_icmp_le (dc_X10_wide 44 rfl) (tgt := 78) (by decide) (fun c0 => ?_) (fun c0 => ?_)
        · rw [if_pos c0] at h
          refine r_iinc (dc_X10_wide 47 rfl) rfl (kinc_1 _) (by decide) (lo' := [(4, .int (xL4 + (1 : Int32))), (2, .int (xL2 + x6)), (0, .ref pL0), (1, .int xL1), (3, .int xL3)]) rfl ?_
          refine r_goto (dc_X10_wide 48 rfl) (tgt := 34) (by decide) ?_
          refine r_pick [2, 3, 1, 4, 0] (lo' := [(0, .ref pL0), (1, .int xL1), (2, .int (xL2 + x6)), (3, .int xL3), (4, .int (xL4 + (1 : Int32)))]) rfl ?_
          exact ih _ _ _ h
        · rw [if_neg c0] at h
          refine r_iload (dc_X10_wide 45 rfl) rfl ?_
          refine r_istore_n (dc_X10_wide 46 rfl) rfl (by decide) (lo' := [(3, .int xL4), (2, .int (xL2 + x6)), (0, .ref pL0), (1, .int xL1), (4, .int xL4)]) rfl ?_
          refine r_iinc (dc_X10_wide 47 rfl) rfl (kinc_1 _) (by decide) (lo' := [(4, .int (xL4 + (1 : Int32))), (3, .int xL4), (2, .int (xL2 + x6)), (0, .ref pL0), (1, .int xL1)]) rfl ?_
          refine r_goto (dc_X10_wide 48 rfl) (tgt := 34) (by decide) ?_
          refine r_pick [3, 4, 2, 1, 0] (lo' := [(0, .ref pL0), (1, .int xL1), (2, .int (xL2 + x6)), (3, .int xL4), (4, .int (xL4 + (1 : Int32)))]) rfl ?_
          exact ih _ _ _ h
theorem t_X10_wide {G : Gx} {d : Nat} (hl : G.1.stackTraces = false) (hd : 5 ≤ d) {σ : Sto} {a0 : Nat} {xa1 : Int32} {r : (Int32 × Sto)} (h : F_X10_wide σ a0 xa1 = some r) : Mi G d m_X10_wide 10 a0 [.int xa1] σ (.inl (some (.int r.1))) r.2 := by
  rw [F_X10_wide] at h
  obtain ⟨hg, h⟩ := chk_some h
  refine ⟨J.toMt (lo := [(0, .ref a0), (1, .int xa1)]) pn_RX10 rfl hl (Nat.le_of_ble_eq_true rfl) rfl ?_, hg⟩
  refine r_aload_n (dc_X10_wide 0 rfl) rfl rfl ?_
  refine r_iconst (dc_X10_wide 1 rfl) kiconst_0 ?_
  obtain ⟨s1, e0, h⟩ := Option.bind_eq_some_iff.mp h
  refine r_put (dc_X10_wide 2 rfl) pl_RX10_1 rfl e0 ?_
  refine r_iload_n (dc_X10_wide 3 rfl) rfl rfl ?_
  refine r_i2l (dc_X10_wide 4 rfl) ?_
  refine r_lconst (dc_X10_wide 5 rfl) klconst_0 ?_
  refine r_ldc2 (dc_X10_wide 6 rfl) ck_RX10_97 ?_
  obtain ⟨x2, e0, h⟩ := Option.bind_eq_some_iff.mp h
  refine r_callS (dc_X10_wide 7 rfl) ms_X10_isIn ml_RX10_89 (As := [.long xa1.toInt64, .long (0 : Int64), .long (2 : Int64)]) (t_X10_isIn (d := d - 1) hl (by omega) e0) (by omega) rfl (Nat.le_of_ble_eq_true rfl) ?_
  refine r_if_ne (dc_X10_wide 8 rfl) (tgt := 23) (by decide) (fun c0 => ?_) (fun c0 => ?_)
  · rw [if_neg c0] at h
    refine r_aload_n (dc_X10_wide 13 rfl) rfl rfl ?_
    obtain ⟨s3, e0, h⟩ := Option.bind_eq_some_iff.mp h
    refine r_callV (dc_X10_wide 14 rfl) mv_X10_laysHeights ml_RX10_319 (As := []) (t_X10_laysHeights (d := d - 1) hl (by omega) e0) (by omega) rfl (Nat.le_of_ble_eq_true rfl) ?_
    refine r_iconst (dc_X10_wide 15 rfl) kiconst_0 ?_
    refine r_istore_n (dc_X10_wide 16 rfl) rfl (by decide) (lo' := [(2, .int (0 : Int32)), (0, .ref a0), (1, .int xa1)]) rfl ?_
    refine r_iconst (dc_X10_wide 17 rfl) kiconst_m1 ?_
    refine r_istore_n (dc_X10_wide 18 rfl) rfl (by decide) (lo' := [(3, .int (-1 : Int32)), (2, .int (0 : Int32)), (0, .ref a0), (1, .int xa1)]) rfl ?_
    refine r_iconst (dc_X10_wide 19 rfl) kiconst_0 ?_
    refine r_istore (dc_X10_wide 20 rfl) (by decide) (lo' := [(4, .int (0 : Int32)), (3, .int (-1 : Int32)), (2, .int (0 : Int32)), (0, .ref a0), (1, .int xa1)]) rfl ?_
    refine r_pick [3, 4, 2, 1, 0] (lo' := [(0, .ref a0), (1, .int xa1), (2, .int (0 : Int32)), (3, .int (-1 : Int32)), (4, .int (0 : Int32))]) rfl ?_
    refine l_X10_wide_L34 hl hd (hk84 := ?_) fu _ _ _ h
    · intro x11 x12 h
      refine r_iload_n (dc_X10_wide 49 rfl) rfl rfl ?_
      refine r_if_ne (dc_X10_wide 50 rfl) (tgt := 94) (by decide) (fun c0 => ?_) (fun c0 => ?_)
      · rw [if_neg c0] at h
        refine r_iload_n (dc_X10_wide 55 rfl) rfl rfl ?_
        refine r_iconst (dc_X10_wide 56 rfl) kiconst_2 ?_
        refine r_icmp_ne (dc_X10_wide 57 rfl) (tgt := 103) (by decide) (fun c0 => ?_) (fun c0 => ?_)
        · rw [if_neg c0] at h
          refine r_iload_n (dc_X10_wide 60 rfl) rfl rfl ?_
          refine r_iconst (dc_X10_wide 61 rfl) kiconst_m1 ?_
          refine r_icmp_ne (dc_X10_wide 62 rfl) (tgt := 112) (by decide) (fun c0 => ?_) (fun c0 => ?_)
          · rw [if_neg c0] at h
            refine r_aload_n (dc_X10_wide 65 rfl) rfl rfl ?_
            obtain ⟨p13, e0, h⟩ := Option.bind_eq_some_iff.mp h
            refine r_getR (dc_X10_wide 66 rfl) fl_RX10_31 e0 ?_
            refine r_iload_n (dc_X10_wide 67 rfl) rfl rfl ?_
            obtain ⟨x14, e0, h⟩ := Option.bind_eq_some_iff.mp h
            refine r_iald (dc_X10_wide 68 rfl) e0 ?_
            cases h
            exact r_ireturn (dc_X10_wide 69 rfl) rfl
          · rw [if_pos c0] at h
            refine r_iconst (dc_X10_wide 63 rfl) kiconst_0 ?_
            refine r_goto (dc_X10_wide 64 rfl) (tgt := 118) (by decide) ?_
            cases h
            exact r_ireturn (dc_X10_wide 69 rfl) rfl
        · rw [if_pos c0] at h
          refine r_iload_n (dc_X10_wide 58 rfl) rfl rfl ?_
          refine r_goto (dc_X10_wide 59 rfl) (tgt := 118) (by decide) ?_
          cases h
          exact r_ireturn (dc_X10_wide 69 rfl) rfl
      · rw [if_pos c0] at h
        refine r_iload_n (dc_X10_wide 51 rfl) rfl rfl ?_
        refine r_iconst (dc_X10_wide 52 rfl) kiconst_2 ?_
        refine r_idiv (dc_X10_wide 53 rfl) (by decide) ?_
        refine r_goto (dc_X10_wide 54 rfl) (tgt := 118) (by decide) ?_
        cases h
        exact r_ireturn (dc_X10_wide 69 rfl) rfl
  · rw [if_pos c0] at h
    refine r_aload_n (dc_X10_wide 9 rfl) rfl rfl ?_
    refine r_iconst (dc_X10_wide 10 rfl) kiconst_1 ?_
    obtain ⟨x16, s15, e0, h⟩ := wb_some h
    refine r_callV (dc_X10_wide 11 rfl) mv_X10_fails ml_RX10_101 (As := [.int (1 : Int32)]) (t_X10_fails (d := d - 1) hl (by omega) e0) (by omega) rfl (Nat.le_of_ble_eq_true rfl) ?_
    cases h
    exact r_ireturn (dc_X10_wide 12 rfl) rfl
theorem t_X10_came {G : Gx} {d : Nat} (hl : G.1.stackTraces = false) (hd : 3 ≤ d) {σ : Sto} {a0 : Nat} {xa1 : Int32} {xa2 : Int32} {xa3 : Int32} {r : (Int32 × Sto)} (h : F_X10_came σ a0 xa1 xa2 xa3 = some r) : Mi G d m_X10_came 10 a0 [.int xa1, .int xa2, .int xa3] σ (.inl (some (.int r.1))) r.2 := by
  rw [F_X10_came] at h
  obtain ⟨hg, h⟩ := chk_some h
  refine ⟨J.toMt (lo := [(0, .ref a0), (1, .int xa1), (2, .int xa2), (3, .int xa3)]) pn_RX10 rfl hl (Nat.le_of_ble_eq_true rfl) rfl ?_, hg⟩
  refine r_aload_n (dc_X10_came 0 rfl) rfl rfl ?_
  refine r_iconst (dc_X10_came 1 rfl) kiconst_0 ?_
  obtain ⟨s1, e0, h⟩ := Option.bind_eq_some_iff.mp h
  refine r_put (dc_X10_came 2 rfl) pl_RX10_1 rfl e0 ?_
  refine r_aload_n (dc_X10_came 3 rfl) rfl rfl ?_
  refine r_iconst (dc_X10_came 4 rfl) kiconst_0 ?_
  obtain ⟨s2, e0, h⟩ := Option.bind_eq_some_iff.mp h
  refine r_put (dc_X10_came 5 rfl) pl_RX10_59 rfl e0 ?_
  refine r_aload_n (dc_X10_came 6 rfl) rfl rfl ?_
  refine r_iload_n (dc_X10_came 7 rfl) rfl rfl ?_
  obtain ⟨x3, e0, h⟩ := Option.bind_eq_some_iff.mp h
  refine r_callV (dc_X10_came 8 rfl) mv_X10_isSite ml_RX10_93 (As := [.int xa1]) (t_X10_isSite (d := d - 1) hl (by omega) e0) (by omega) rfl (Nat.le_of_ble_eq_true rfl) ?_
  refine r_if_eq (dc_X10_came 9 rfl) (tgt := 26) (by decide) (fun c0 => ?_) (fun c0 => ?_)
  · rw [if_pos c0] at h
    refine r_aload_n (dc_X10_came 14 rfl) rfl rfl ?_
    refine r_iconst (dc_X10_came 15 rfl) kiconst_1 ?_
    obtain ⟨x5, s4, e0, h⟩ := wb_some h
    refine r_callV (dc_X10_came 16 rfl) mv_X10_fails ml_RX10_101 (As := [.int (1 : Int32)]) (t_X10_fails (d := d - 1) hl (by omega) e0) (by omega) rfl (Nat.le_of_ble_eq_true rfl) ?_
    cases h
    exact r_ireturn (dc_X10_came 17 rfl) rfl
  · rw [if_neg c0] at h
    refine r_aload_n (dc_X10_came 10 rfl) rfl rfl ?_
    refine r_iload_n (dc_X10_came 11 rfl) rfl rfl ?_
    obtain ⟨x6, e0, h⟩ := Option.bind_eq_some_iff.mp h
    refine r_callV (dc_X10_came 12 rfl) mv_X10_isEvent ml_RX10_156 (As := [.int xa2]) (t_X10_isEvent (d := d - 1) hl (by omega) e0) (by omega) rfl (Nat.le_of_ble_eq_true rfl) ?_
    refine r_if_ne (dc_X10_came 13 rfl) (tgt := 32) (by decide) (fun c0 => ?_) (fun c0 => ?_)
    · rw [if_neg c0] at h
      refine r_iload_n (dc_X10_came 18 rfl) rfl rfl ?_
      refine r_i2l (dc_X10_came 19 rfl) ?_
      refine r_lconst (dc_X10_came 20 rfl) klconst_0 ?_
      refine r_lconst (dc_X10_came 21 rfl) klconst_1 ?_
      obtain ⟨x7, e0, h⟩ := Option.bind_eq_some_iff.mp h
      refine r_callS (dc_X10_came 22 rfl) ms_X10_isIn ml_RX10_89 (As := [.long xa3.toInt64, .long (0 : Int64), .long (1 : Int64)]) (t_X10_isIn (d := d - 1) hl (by omega) e0) (by omega) rfl (Nat.le_of_ble_eq_true rfl) ?_
      refine r_if_ne (dc_X10_came 23 rfl) (tgt := 48) (by decide) (fun c0 => ?_) (fun c0 => ?_)
      · rw [if_neg c0] at h
        refine r_aload_n (dc_X10_came 28 rfl) rfl rfl ?_
        refine r_iload_n (dc_X10_came 29 rfl) rfl rfl ?_
        refine r_iload_n (dc_X10_came 30 rfl) rfl rfl ?_
        refine r_iconst (dc_X10_came 31 rfl) kiconst_0 ?_
        obtain ⟨x8, e0, h⟩ := Option.bind_eq_some_iff.mp h
        refine r_callV (dc_X10_came 32 rfl) mv_X10_doesHave ml_RX10_226 (As := [.int xa1, .int xa2, .int (0 : Int32)]) (t_X10_doesHave (d := d - 1) hl (by omega) e0) (by omega) rfl (Nat.le_of_ble_eq_true rfl) ?_
        refine r_if_eq (dc_X10_came 33 rfl) (tgt := 62) (by decide) (fun c0 => ?_) (fun c0 => ?_)
        · rw [if_pos c0] at h
          refine r_aload_n (dc_X10_came 36 rfl) rfl rfl ?_
          obtain ⟨p9, e0, h⟩ := Option.bind_eq_some_iff.mp h
          refine r_getR (dc_X10_came 37 rfl) fl_RX10_14 e0 ?_
          refine r_iload_n (dc_X10_came 38 rfl) rfl rfl ?_
          obtain ⟨x10, e0, h⟩ := Option.bind_eq_some_iff.mp h
          refine r_callS (dc_X10_came 39 rfl) ms_X10_stateOf ml_RX10_111 (As := [.int xa1]) (t_X10_stateOf (d := d - 1) hl (by omega) e0) (by omega) rfl (Nat.le_of_ble_eq_true rfl) ?_
          refine r_iload_n (dc_X10_came 40 rfl) rfl rfl ?_
          refine jn_elim h (Q := fun (j : Int32 → Option (Int32 × Sto)) => ∀ (x12 : Int32), j x12 = some r → J G d m_X10_came 83 [(2, .int xa2)] [.int x12, .int x10, .ref p9] s2 (.inl (some (.int r.1))) r.2) ?_ (fun j11 hj11 h => ?_)
          · intro x12 h
            refine r_iadd (dc_X10_came 45 rfl) ?_
            refine r_iload_n (dc_X10_came 46 rfl) rfl rfl ?_
            refine r_iadd (dc_X10_came 47 rfl) ?_
            obtain ⟨x13, e0, h⟩ := Option.bind_eq_some_iff.mp h
            refine r_iald (dc_X10_came 48 rfl) e0 ?_
            cases h
            exact r_ireturn (dc_X10_came 49 rfl) rfl
          refine r_if_ne (dc_X10_came 41 rfl) (tgt := 80) (by decide) (fun c0 => ?_) (fun c0 => ?_)
          · rw [if_neg c0] at h
            refine r_sipush (dc_X10_came 44 rfl) ksipush_274 ?_
            refine r_pick [2] (lo' := [(2, .int xa2)]) rfl ?_
            exact hj11 _ h
          · rw [if_pos c0] at h
            refine r_sipush (dc_X10_came 42 rfl) ksipush_154 ?_
            refine r_goto (dc_X10_came 43 rfl) (tgt := 83) (by decide) ?_
            refine r_pick [2] (lo' := [(2, .int xa2)]) rfl ?_
            exact hj11 _ h
        · rw [if_neg c0] at h
          refine r_iconst (dc_X10_came 34 rfl) kiconst_m1 ?_
          refine r_goto (dc_X10_came 35 rfl) (tgt := 87) (by decide) ?_
          cases h
          exact r_ireturn (dc_X10_came 49 rfl) rfl
      · rw [if_pos c0] at h
        refine r_aload_n (dc_X10_came 24 rfl) rfl rfl ?_
        refine r_iconst (dc_X10_came 25 rfl) kiconst_2 ?_
        obtain ⟨x15, s14, e0, h⟩ := wb_some h
        refine r_callV (dc_X10_came 26 rfl) mv_X10_fails ml_RX10_101 (As := [.int (2 : Int32)]) (t_X10_fails (d := d - 1) hl (by omega) e0) (by omega) rfl (Nat.le_of_ble_eq_true rfl) ?_
        cases h
        exact r_ireturn (dc_X10_came 27 rfl) rfl
    · rw [if_pos c0] at h
      refine r_aload_n (dc_X10_came 14 rfl) rfl rfl ?_
      refine r_iconst (dc_X10_came 15 rfl) kiconst_1 ?_
      obtain ⟨x17, s16, e0, h⟩ := wb_some h
      refine r_callV (dc_X10_came 16 rfl) mv_X10_fails ml_RX10_101 (As := [.int (1 : Int32)]) (t_X10_fails (d := d - 1) hl (by omega) e0) (by omega) rfl (Nat.le_of_ble_eq_true rfl) ?_
      cases h
      exact r_ireturn (dc_X10_came 17 rfl) rfl
