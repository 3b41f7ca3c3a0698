theorem l_X5_findLongestRows_L46 {G : Gx} {d : Nat} (hl : G.1.stackTraces = false) (hd : 2 ≤ d) {pL0 : Nat} {pL2 : Nat} {xL3 : Int32} {r : Sto} {k95 : Sto → Option Sto}
    (hk95 : ∀ (sL : Sto), k95 sL = some r → J G d m_X5_findLongestRows 95 [(0, .ref pL0), (2, .ref pL2), (3, .int xL3)] [] sL (.inl none) r)
  : ∀ (f : Nat) (xL4 : Int32) (sL : Sto), F_X5_findLongestRows_L46 pL0 pL2 xL3 f xL4 sL k95 = some r → J G d m_X5_findLongestRows 46 [(0, .ref pL0), (2, .ref pL2), (3, .int xL3), (4, .int xL4)] [] sL (.inl none) r := by
  intro f
  induction f with
  | zero => intro xL4 sL h; rw [F_X5_findLongestRows_L46] at h; cases h
  | succ f ih =>
    intro xL4 sL h
    rw [F_X5_findLongestRows_L46] at h
    refine r_iload (dc_X5_findLongestRows 23 rfl) rfl ?_
    refine r_iload_n (dc_X5_findLongestRows 24 rfl) rfl rfl ?_
    refine r_icmp_ge (dc_X5_findLongestRows 25 rfl) (tgt := 95) (by decide) (fun c0 => ?_) (fun c0 => ?_)
    · rw [if_pos c0] at h
      refine r_pick [0, 1, 2] (lo' := [(0, .ref pL0), (2, .ref pL2), (3, .int xL3)]) rfl ?_
      exact hk95 _ h
    · rw [if_neg c0] at h
      refine r_aload_n (dc_X5_findLongestRows 26 rfl) rfl rfl ?_
      refine r_iload (dc_X5_findLongestRows 27 rfl) rfl ?_
      refine r_iload_n (dc_X5_findLongestRows 28 rfl) rfl rfl ?_
      obtain ⟨x9, e0, h⟩ := Option.bind_eq_some_iff.mp h
      refine r_callV (dc_X5_findLongestRows 29 rfl) mv_X2_isAhead ml_RX5_177 (As := [.int xL4, .int xL3]) (t_X2_isAhead (d := d - 1) hl (by omega) e0) (by omega) rfl (Nat.le_of_ble_eq_true rfl) ?_
      refine r_if_eq (dc_X5_findLongestRows 30 rfl) (tgt := 89) (by decide) (fun c0 => ?_) (fun c0 => ?_)
      · rw [if_pos c0] at h
        refine r_iinc (dc_X5_findLongestRows 46 rfl) rfl (kinc_1 _) (by decide) (lo' := [(4, .int (xL4 + (1 : Int32))), (0, .ref pL0), (2, .ref pL2), (3, .int xL3)]) rfl ?_
        refine r_goto (dc_X5_findLongestRows 47 rfl) (tgt := 46) (by decide) ?_
        refine r_pick [1, 2, 3, 0] (lo' := [(0, .ref pL0), (2, .ref pL2), (3, .int xL3), (4, .int (xL4 + (1 : Int32)))]) rfl ?_
        exact ih _ _ h
      · rw [if_neg c0] at h
        refine r_aload_n (dc_X5_findLongestRows 31 rfl) rfl rfl ?_
        obtain ⟨p10, e0, h⟩ := Option.bind_eq_some_iff.mp h
        refine r_getR (dc_X5_findLongestRows 32 rfl) fl_RX5_171 e0 ?_
        refine r_iload (dc_X5_findLongestRows 33 rfl) rfl ?_
        obtain ⟨x11, e0, h⟩ := Option.bind_eq_some_iff.mp h
        refine r_iald (dc_X5_findLongestRows 34 rfl) e0 ?_
        refine r_aload_n (dc_X5_findLongestRows 35 rfl) rfl rfl ?_
        obtain ⟨p12, e0, h⟩ := Option.bind_eq_some_iff.mp h
        refine r_getR (dc_X5_findLongestRows 36 rfl) fl_RX5_171 e0 ?_
        refine r_iload_n (dc_X5_findLongestRows 37 rfl) rfl rfl ?_
        obtain ⟨x13, e0, h⟩ := Option.bind_eq_some_iff.mp h
        refine r_iald (dc_X5_findLongestRows 38 rfl) e0 ?_
        refine r_iconst (dc_X5_findLongestRows 39 rfl) kiconst_1 ?_
        refine r_isub (dc_X5_findLongestRows 40 rfl) ?_
        refine r_icmp_ne (dc_X5_findLongestRows 41 rfl) (tgt := 89) (by decide) (fun c0 => ?_) (fun c0 => ?_)
        · rw [if_neg c0] at h
          refine r_iinc (dc_X5_findLongestRows 46 rfl) rfl (kinc_1 _) (by decide) (lo' := [(4, .int (xL4 + (1 : Int32))), (0, .ref pL0), (2, .ref pL2), (3, .int xL3)]) rfl ?_
          refine r_goto (dc_X5_findLongestRows 47 rfl) (tgt := 46) (by decide) ?_
          refine r_pick [1, 2, 3, 0] (lo' := [(0, .ref pL0), (2, .ref pL2), (3, .int xL3), (4, .int (xL4 + (1 : Int32)))]) rfl ?_
          exact ih _ _ h
        · rw [if_pos c0] at h
          refine r_aload_n (dc_X5_findLongestRows 42 rfl) rfl rfl ?_
          obtain ⟨p14, e0, h⟩ := Option.bind_eq_some_iff.mp h
          refine r_getR (dc_X5_findLongestRows 43 rfl) fl_RX5_29 e0 ?_
          refine r_iload (dc_X5_findLongestRows 44 rfl) rfl ?_
          obtain ⟨s15, e0, h⟩ := Option.bind_eq_some_iff.mp h
          refine r_callV (dc_X5_findLongestRows 45 rfl) mv_X1_insert ml_RX5_120 (As := [.int xL4]) (t_X1_insert (d := d - 1) hl (by omega) e0) (by omega) rfl (Nat.le_of_ble_eq_true rfl) ?_
          refine r_iinc (dc_X5_findLongestRows 46 rfl) rfl (kinc_1 _) (by decide) (lo' := [(4, .int (xL4 + (1 : Int32))), (0, .ref pL0), (2, .ref pL2), (3, .int xL3)]) rfl ?_
          refine r_goto (dc_X5_findLongestRows 47 rfl) (tgt := 46) (by decide) ?_
          refine r_pick [1, 2, 3, 0] (lo' := [(0, .ref pL0), (2, .ref pL2), (3, .int xL3), (4, .int (xL4 + (1 : Int32)))]) rfl ?_
          exact ih _ _ h
theorem l_X5_findLongestRows_L25 {G : Gx} {d : Nat} (hl : G.1.stackTraces = false) (hd : 2 ≤ d) {pL0 : Nat} {pL2 : Nat} {r : Sto} {k101 : Sto → Option Sto}
    (hk101 : ∀ (sL : Sto), k101 sL = some r → J G d m_X5_findLongestRows 101 [] [] sL (.inl none) r)
  : ∀ (f : Nat) (xL3 : Int32) (sL : Sto), F_X5_findLongestRows_L25 pL0 pL2 f xL3 sL k101 = some r → J G d m_X5_findLongestRows 25 [(0, .ref pL0), (2, .ref pL2), (3, .int xL3)] [] sL (.inl none) r := by
  intro f
  induction f with
  | zero => intro xL3 sL h; rw [F_X5_findLongestRows_L25] at h; cases h
  | succ f ih =>
    intro xL3 sL h
    rw [F_X5_findLongestRows_L25] at h
    refine r_iload_n (dc_X5_findLongestRows 13 rfl) rfl rfl ?_
    refine r_if_le (dc_X5_findLongestRows 14 rfl) (tgt := 101) (by decide) (fun c0 => ?_) (fun c0 => ?_)
    · rw [if_pos c0] at h
      refine r_pick [] (lo' := []) rfl ?_
      exact hk101 _ h
    · rw [if_neg c0] at h
      refine r_aload_n (dc_X5_findLongestRows 15 rfl) rfl rfl ?_
      obtain ⟨p7, e0, h⟩ := Option.bind_eq_some_iff.mp h
      refine r_getR (dc_X5_findLongestRows 16 rfl) fl_RX5_29 e0 ?_
      refine r_iload_n (dc_X5_findLongestRows 17 rfl) rfl rfl ?_
      obtain ⟨x8, e0, h⟩ := Option.bind_eq_some_iff.mp h
      refine r_callV (dc_X5_findLongestRows 18 rfl) mv_X1_holds ml_RX5_72 (As := [.int xL3]) (t_X1_holds (d := d - 1) hl (by omega) e0) (by omega) rfl (Nat.le_of_ble_eq_true rfl) ?_
      refine r_if_ne (dc_X5_findLongestRows 19 rfl) (tgt := 43) (by decide) (fun c0 => ?_) (fun c0 => ?_)
      · rw [if_neg c0] at h
        refine r_iconst (dc_X5_findLongestRows 21 rfl) kiconst_0 ?_
        refine r_istore (dc_X5_findLongestRows 22 rfl) (by decide) (lo' := [(4, .int (0 : Int32)), (0, .ref pL0), (2, .ref pL2), (3, .int xL3)]) rfl ?_
        refine r_pick [1, 2, 3, 0] (lo' := [(0, .ref pL0), (2, .ref pL2), (3, .int xL3), (4, .int (0 : Int32))]) rfl ?_
        refine l_X5_findLongestRows_L46 hl hd (hk95 := ?_) fu _ _ h
        · intro s16 h
          refine r_iinc (dc_X5_findLongestRows 48 rfl) rfl (kinc_m1 _) (by decide) (lo' := [(3, .int (xL3 + (-1 : Int32))), (0, .ref pL0), (2, .ref pL2)]) rfl ?_
          refine r_goto (dc_X5_findLongestRows 49 rfl) (tgt := 25) (by decide) ?_
          refine r_pick [1, 2, 0] (lo' := [(0, .ref pL0), (2, .ref pL2), (3, .int (xL3 + (-1 : Int32)))]) rfl ?_
          exact ih _ _ h
      · rw [if_pos c0] at h
        refine r_goto (dc_X5_findLongestRows 20 rfl) (tgt := 95) (by decide) ?_
        refine r_iinc (dc_X5_findLongestRows 48 rfl) rfl (kinc_m1 _) (by decide) (lo' := [(3, .int (xL3 + (-1 : Int32))), (0, .ref pL0), (2, .ref pL2)]) rfl ?_
        refine r_goto (dc_X5_findLongestRows 49 rfl) (tgt := 25) (by decide) ?_
        refine r_pick [1, 2, 0] (lo' := [(0, .ref pL0), (2, .ref pL2), (3, .int (xL3 + (-1 : Int32)))]) rfl ?_
        exact ih _ _ h
theorem t_X5_findLongestRows {G : Gx} {d : Nat} (hl : G.1.stackTraces = false) (hd : 2 ≤ d) {σ : Sto} {a0 : Nat} {xa1 : Int32} {r : Sto} (h : F_X5_findLongestRows σ a0 xa1 = some r) : Mi G d m_X5_findLongestRows 5 a0 [.int xa1] σ (.inl none) r := by
  rw [F_X5_findLongestRows] at h
  obtain ⟨hg, h⟩ := chk_some h
  refine ⟨J.toMt (lo := [(0, .ref a0), (1, .int xa1)]) pn_RX5 rfl hl (Nat.le_of_ble_eq_true rfl) rfl ?_, hg⟩
  refine r_aload_n (dc_X5_findLongestRows 0 rfl) rfl rfl ?_
  obtain ⟨p1, e0, h⟩ := Option.bind_eq_some_iff.mp h
  refine r_getR (dc_X5_findLongestRows 1 rfl) fl_RX5_40 e0 ?_
  obtain ⟨p2, e0, h⟩ := Option.bind_eq_some_iff.mp h
  refine r_getR (dc_X5_findLongestRows 2 rfl) fl_RX5_50 e0 ?_
  refine r_astore_n (dc_X5_findLongestRows 3 rfl) rfl (by decide) (lo' := [(2, .ref p2), (0, .ref a0), (1, .int xa1)]) rfl ?_
  refine r_aload_n (dc_X5_findLongestRows 4 rfl) rfl rfl ?_
  obtain ⟨p3, e0, h⟩ := Option.bind_eq_some_iff.mp h
  refine r_getR (dc_X5_findLongestRows 5 rfl) fl_RX5_29 e0 ?_
  obtain ⟨s4, e0, h⟩ := Option.bind_eq_some_iff.mp h
  refine r_callV (dc_X5_findLongestRows 6 rfl) mv_X1_clear ml_RX5_93 (As := []) (t_X1_clear (d := d - 1) hl (by omega) e0) (by omega) rfl (Nat.le_of_ble_eq_true rfl) ?_
  refine r_aload_n (dc_X5_findLongestRows 7 rfl) rfl rfl ?_
  obtain ⟨p5, e0, h⟩ := Option.bind_eq_some_iff.mp h
  refine r_getR (dc_X5_findLongestRows 8 rfl) fl_RX5_29 e0 ?_
  refine r_iload_n (dc_X5_findLongestRows 9 rfl) rfl rfl ?_
  obtain ⟨s6, e0, h⟩ := Option.bind_eq_some_iff.mp h
  refine r_callV (dc_X5_findLongestRows 10 rfl) mv_X1_insert ml_RX5_120 (As := [.int xa1]) (t_X1_insert (d := d - 1) hl (by omega) e0) (by omega) rfl (Nat.le_of_ble_eq_true rfl) ?_
  refine r_iload_n (dc_X5_findLongestRows 11 rfl) rfl rfl ?_
  refine r_istore_n (dc_X5_findLongestRows 12 rfl) rfl (by decide) (lo' := [(3, .int xa1), (2, .ref p2), (0, .ref a0), (1, .int xa1)]) rfl ?_
  refine r_pick [2, 1, 0] (lo' := [(0, .ref a0), (2, .ref p2), (3, .int xa1)]) rfl ?_
  refine l_X5_findLongestRows_L25 hl hd (hk101 := ?_) fu _ _ h
  · intro s17 h
    cases h
    exact r_vreturn (dc_X5_findLongestRows 50 rfl) rfl
theorem l_X5_inLongestRow_L35 {G : Gx} {d : Nat} (hl : G.1.stackTraces = false) (hd : 3 ≤ d) {sL : Sto} {pL0 : Nat} {xL1 : Int32} {xL2 : Int32} {r : (Int32 × Sto)} {k112 : Int32 → Option (Int32 × Sto)}
    (hk112 : ∀ (xL3 : Int32), k112 xL3 = some r → J G d m_X5_inLongestRow 112 [(3, .int xL3)] [] sL (.inl (some (.int r.1))) r.2)
  : ∀ (f : Nat) (xL3 : Int32) (xL4 : Int32) (xL5 : Int32), F_X5_inLongestRow_L35 sL pL0 xL1 xL2 f xL3 xL4 xL5 k112 = some r → J G d m_X5_inLongestRow 35 [(0, .ref pL0), (1, .int xL1), (2, .int xL2), (3, .int xL3), (4, .int xL4), (5, .int xL5)] [] sL (.inl (some (.int r.1))) r.2 := by
  intro f
  induction f with
  | zero => intro xL3 xL4 xL5 h; rw [F_X5_inLongestRow_L35] at h; cases h
  | succ f ih =>
    intro xL3 xL4 xL5 h
    rw [F_X5_inLongestRow_L35] at h
    refine r_iload (dc_X5_inLongestRow 21 rfl) rfl ?_
    refine r_iload_n (dc_X5_inLongestRow 22 rfl) rfl rfl ?_
    refine r_icmp_gt (dc_X5_inLongestRow 23 rfl) (tgt := 112) (by decide) (fun c0 => ?_) (fun c0 => ?_)
    · rw [if_pos c0] at h
      refine r_pick [3] (lo' := [(3, .int xL3)]) rfl ?_
      exact hk112 _ h
    · rw [if_neg c0] at h
      refine r_iload (dc_X5_inLongestRow 24 rfl) rfl ?_
      refine r_iload_n (dc_X5_inLongestRow 25 rfl) rfl rfl ?_
      refine r_icmp_gt (dc_X5_inLongestRow 26 rfl) (tgt := 112) (by decide) (fun c0 => ?_) (fun c0 => ?_)
      · rw [if_pos c0] at h
        refine r_pick [3] (lo' := [(3, .int xL3)]) rfl ?_
        exact hk112 _ h
      · rw [if_neg c0] at h
        refine r_aload_n (dc_X5_inLongestRow 27 rfl) rfl rfl ?_
        obtain ⟨p6, e0, h⟩ := Option.bind_eq_some_iff.mp h
        refine r_getR (dc_X5_inLongestRow 28 rfl) fl_RX5_29 e0 ?_
        refine r_iload (dc_X5_inLongestRow 29 rfl) rfl ?_
        obtain ⟨x7, e0, h⟩ := Option.bind_eq_some_iff.mp h
        refine r_callV (dc_X5_inLongestRow 30 rfl) mv_X1_holds ml_RX5_72 (As := [.int xL5]) (t_X1_holds (d := d - 1) hl (by omega) e0) (by omega) rfl (Nat.le_of_ble_eq_true rfl) ?_
        refine r_if_eq (dc_X5_inLongestRow 31 rfl) (tgt := 106) (by decide) (fun c0 => ?_) (fun c0 => ?_)
        · rw [if_pos c0] at h
          refine r_iinc (dc_X5_inLongestRow 55 rfl) rfl (kinc_1 _) (by decide) (lo' := [(5, .int (xL5 + (1 : Int32))), (0, .ref pL0), (1, .int xL1), (2, .int xL2), (3, .int xL3), (4, .int xL4)]) rfl ?_
          refine r_goto (dc_X5_inLongestRow 56 rfl) (tgt := 35) (by decide) ?_
          refine r_pick [1, 2, 3, 4, 5, 0] (lo' := [(0, .ref pL0), (1, .int xL1), (2, .int xL2), (3, .int xL3), (4, .int xL4), (5, .int (xL5 + (1 : Int32)))]) rfl ?_
          exact ih _ _ _ h
        · rw [if_neg c0] at h
          refine r_aload_n (dc_X5_inLongestRow 32 rfl) rfl rfl ?_
          obtain ⟨p8, e0, h⟩ := Option.bind_eq_some_iff.mp h
          refine r_getR (dc_X5_inLongestRow 33 rfl) fl_RX5_40 e0 ?_
          obtain ⟨p9, e0, h⟩ := Option.bind_eq_some_iff.mp h
          refine r_getR (dc_X5_inLongestRow 34 rfl) fl_RX5_50 e0 ?_
          obtain ⟨p10, e0, h⟩ := Option.bind_eq_some_iff.mp h
          refine r_getR (dc_X5_inLongestRow 35 rfl) fl_RX5_171 e0 ?_
          refine r_iload (dc_X5_inLongestRow 36 rfl) rfl ?_
          obtain ⟨x11, e0, h⟩ := Option.bind_eq_some_iff.mp h
          refine r_iald (dc_X5_inLongestRow 37 rfl) e0 ?_
          refine r_iload (dc_X5_inLongestRow 38 rfl) rfl ?_
          refine r_iconst (dc_X5_inLongestRow 39 rfl) kiconst_1 ?_
          refine r_iadd (dc_X5_inLongestRow 40 rfl) ?_
          refine r_icmp_ne (dc_X5_inLongestRow 41 rfl) (tgt := 106) (by decide) (fun c0 => ?_) (fun c0 => ?_)
          · rw [if_neg c0] at h
            refine r_iinc (dc_X5_inLongestRow 55 rfl) rfl (kinc_1 _) (by decide) (lo' := [(5, .int (xL5 + (1 : Int32))), (0, .ref pL0), (1, .int xL1), (2, .int xL2), (3, .int xL3), (4, .int xL4)]) rfl ?_
            refine r_goto (dc_X5_inLongestRow 56 rfl) (tgt := 35) (by decide) ?_
            refine r_pick [1, 2, 3, 4, 5, 0] (lo' := [(0, .ref pL0), (1, .int xL1), (2, .int xL2), (3, .int xL3), (4, .int xL4), (5, .int (xL5 + (1 : Int32)))]) rfl ?_
            exact ih _ _ _ h
          · rw [if_pos c0] at h
            refine r_iload_n (dc_X5_inLongestRow 42 rfl) rfl rfl ?_
            refine r_iconst (dc_X5_inLongestRow 43 rfl) kiconst_m1 ?_
            refine r_icmp_eq (dc_X5_inLongestRow 44 rfl) (tgt := 100) (by decide) (fun c0 => ?_) (fun c0 => ?_)
            · rw [if_pos c0] at h
              refine r_iload (dc_X5_inLongestRow 52 rfl) rfl ?_
              refine r_istore_n (dc_X5_inLongestRow 53 rfl) rfl (by decide) (lo' := [(3, .int xL5), (0, .ref pL0), (1, .int xL1), (2, .int xL2), (4, .int xL4), (5, .int xL5)]) rfl ?_
              refine r_iinc (dc_X5_inLongestRow 54 rfl) rfl (kinc_1 _) (by decide) (lo' := [(4, .int (xL4 + (1 : Int32))), (3, .int xL5), (0, .ref pL0), (1, .int xL1), (2, .int xL2), (5, .int xL5)]) rfl ?_
              refine r_iinc (dc_X5_inLongestRow 55 rfl) rfl (kinc_1 _) (by decide) (lo' := [(5, .int (xL5 + (1 : Int32))), (4, .int (xL4 + (1 : Int32))), (3, .int xL5), (0, .ref pL0), (1, .int xL1), (2, .int xL2)]) rfl ?_
              refine r_goto (dc_X5_inLongestRow 56 rfl) (tgt := 35) (by decide) ?_
              refine r_pick [3, 4, 5, 2, 1, 0] (lo' := [(0, .ref pL0), (1, .int xL1), (2, .int xL2), (3, .int xL5), (4, .int (xL4 + (1 : Int32))), (5, .int (xL5 + (1 : Int32)))]) rfl ?_
              exact ih _ _ _ h
            · rw [if_neg c0] at h
              refine r_aload_n (dc_X5_inLongestRow 45 rfl) rfl rfl ?_
              obtain ⟨p12, e0, h⟩ := Option.bind_eq_some_iff.mp h
              refine r_getR (dc_X5_inLongestRow 46 rfl) fl_RX5_40 e0 ?_
              obtain ⟨p13, e0, h⟩ := Option.bind_eq_some_iff.mp h
              refine r_getR (dc_X5_inLongestRow 47 rfl) fl_RX5_50 e0 ?_
              refine r_iload_n (dc_X5_inLongestRow 48 rfl) rfl rfl ?_
              refine r_iload (dc_X5_inLongestRow 49 rfl) rfl ?_
              obtain ⟨x14, e0, h⟩ := Option.bind_eq_some_iff.mp h
              refine r_callV (dc_X5_inLongestRow 50 rfl) mv_X2_isAhead ml_RX5_177 (As := [.int xL3, .int xL5]) (t_X2_isAhead (d := d - 1) hl (by omega) e0) (by omega) rfl (Nat.le_of_ble_eq_true rfl) ?_
              refine r_if_eq (dc_X5_inLongestRow 51 rfl) (tgt := 106) (by decide) (fun c0 => ?_) (fun c0 => ?_)
              · rw [if_pos c0] at h
                refine r_iinc (dc_X5_inLongestRow 55 rfl) rfl (kinc_1 _) (by decide) (lo' := [(5, .int (xL5 + (1 : Int32))), (0, .ref pL0), (1, .int xL1), (2, .int xL2), (3, .int xL3), (4, .int xL4)]) rfl ?_
                refine r_goto (dc_X5_inLongestRow 56 rfl) (tgt := 35) (by decide) ?_
                refine r_pick [1, 2, 3, 4, 5, 0] (lo' := [(0, .ref pL0), (1, .int xL1), (2, .int xL2), (3, .int xL3), (4, .int xL4), (5, .int (xL5 + (1 : Int32)))]) rfl ?_
                exact ih _ _ _ h
              · rw [if_neg c0] at h
                refine r_iload (dc_X5_inLongestRow 52 rfl) rfl ?_
                refine r_istore_n (dc_X5_inLongestRow 53 rfl) rfl (by decide) (lo' := [(3, .int xL5), (0, .ref pL0), (1, .int xL1), (2, .int xL2), (4, .int xL4), (5, .int xL5)]) rfl ?_
                refine r_iinc (dc_X5_inLongestRow 54 rfl) rfl (kinc_1 _) (by decide) (lo' := [(4, .int (xL4 + (1 : Int32))), (3, .int xL5), (0, .ref pL0), (1, .int xL1), (2, .int xL2), (5, .int xL5)]) rfl ?_
                refine r_iinc (dc_X5_inLongestRow 55 rfl) rfl (kinc_1 _) (by decide) (lo' := [(5, .int (xL5 + (1 : Int32))), (4, .int (xL4 + (1 : Int32))), (3, .int xL5), (0, .ref pL0), (1, .int xL1), (2, .int xL2)]) rfl ?_
                refine r_goto (dc_X5_inLongestRow 56 rfl) (tgt := 35) (by decide) ?_
                refine r_pick [3, 4, 5, 2, 1, 0] (lo' := [(0, .ref pL0), (1, .int xL1), (2, .int xL2), (3, .int xL5), (4, .int (xL4 + (1 : Int32))), (5, .int (xL5 + (1 : Int32)))]) rfl ?_
                exact ih _ _ _ h
theorem t_X5_inLongestRow {G : Gx} {d : Nat} (hl : G.1.stackTraces = false) (hd : 3 ≤ d) {σ : Sto} {a0 : Nat} {xa1 : Int32} {xa2 : Int32} {r : (Int32 × Sto)} (h : F_X5_inLongestRow σ a0 xa1 xa2 = some r) : Mi G d m_X5_inLongestRow 5 a0 [.int xa1, .int xa2] σ (.inl (some (.int r.1))) r.2 := by
  rw [F_X5_inLongestRow] at h
  obtain ⟨hg, h⟩ := chk_some h
  refine ⟨J.toMt (lo := [(0, .ref a0), (1, .int xa1), (2, .int xa2)]) pn_RX5 rfl hl (Nat.le_of_ble_eq_true rfl) rfl ?_, hg⟩
  refine r_iload_n (dc_X5_inLongestRow 0 rfl) rfl rfl ?_
  refine r_if_lt (dc_X5_inLongestRow 1 rfl) (tgt := 20) (by decide) (fun c0 => ?_) (fun c0 => ?_)
  · rw [if_pos c0] at h
    refine r_iconst (dc_X5_inLongestRow 10 rfl) kiconst_m1 ?_
    cases h
    exact r_ireturn (dc_X5_inLongestRow 11 rfl) rfl
  · rw [if_neg c0] at h
    refine r_iload_n (dc_X5_inLongestRow 2 rfl) rfl rfl ?_
    refine r_aload_n (dc_X5_inLongestRow 3 rfl) rfl rfl ?_
    obtain ⟨p1, e0, h⟩ := Option.bind_eq_some_iff.mp h
    refine r_getR (dc_X5_inLongestRow 4 rfl) fl_RX5_40 e0 ?_
    obtain ⟨p2, e0, h⟩ := Option.bind_eq_some_iff.mp h
    refine r_getR (dc_X5_inLongestRow 5 rfl) fl_RX5_50 e0 ?_
    obtain ⟨p3, e0, h⟩ := Option.bind_eq_some_iff.mp h
    refine r_getR (dc_X5_inLongestRow 6 rfl) fl_RX5_171 e0 ?_
    refine r_iload_n (dc_X5_inLongestRow 7 rfl) rfl rfl ?_
    obtain ⟨x4, e0, h⟩ := Option.bind_eq_some_iff.mp h
    refine r_iald (dc_X5_inLongestRow 8 rfl) e0 ?_
    refine r_icmp_lt (dc_X5_inLongestRow 9 rfl) (tgt := 22) (by decide) (fun c0 => ?_) (fun c0 => ?_)
    · rw [if_pos c0] at h
      refine r_aload_n (dc_X5_inLongestRow 12 rfl) rfl rfl ?_
      refine r_iload_n (dc_X5_inLongestRow 13 rfl) rfl rfl ?_
      obtain ⟨s5, e0, h⟩ := Option.bind_eq_some_iff.mp h
      refine r_callV (dc_X5_inLongestRow 14 rfl) mv_X5_findLongestRows ml_RX5_174 (As := [.int xa1]) (t_X5_findLongestRows (d := d - 1) hl (by omega) e0) (by omega) rfl (Nat.le_of_ble_eq_true rfl) ?_
      refine r_iconst (dc_X5_inLongestRow 15 rfl) kiconst_m1 ?_
      refine r_istore_n (dc_X5_inLongestRow 16 rfl) rfl (by decide) (lo' := [(3, .int (-1 : Int32)), (0, .ref a0), (1, .int xa1), (2, .int xa2)]) rfl ?_
      refine r_iconst (dc_X5_inLongestRow 17 rfl) kiconst_0 ?_
      refine r_istore (dc_X5_inLongestRow 18 rfl) (by decide) (lo' := [(4, .int (0 : Int32)), (3, .int (-1 : Int32)), (0, .ref a0), (1, .int xa1), (2, .int xa2)]) rfl ?_
      refine r_iconst (dc_X5_inLongestRow 19 rfl) kiconst_0 ?_
      refine r_istore (dc_X5_inLongestRow 20 rfl) (by decide) (lo' := [(5, .int (0 : Int32)), (4, .int (0 : Int32)), (3, .int (-1 : Int32)), (0, .ref a0), (1, .int xa1), (2, .int xa2)]) rfl ?_
      refine r_pick [3, 4, 5, 2, 1, 0] (lo' := [(0, .ref a0), (1, .int xa1), (2, .int xa2), (3, .int (-1 : Int32)), (4, .int (0 : Int32)), (5, .int (0 : Int32))]) rfl ?_
      refine l_X5_inLongestRow_L35 hl hd (hk112 := ?_) fu _ _ _ h
      · intro x15 h
        refine r_iload_n (dc_X5_inLongestRow 57 rfl) rfl rfl ?_
        cases h
        exact r_ireturn (dc_X5_inLongestRow 58 rfl) rfl
    · rw [if_neg c0] at h
      refine r_iconst (dc_X5_inLongestRow 10 rfl) kiconst_m1 ?_
      cases h
      exact r_ireturn (dc_X5_inLongestRow 11 rfl) rfl
theorem t_X6_copyLog {G : Gx} {d : Nat} (hl : G.1.stackTraces = false) (hd : 2 ≤ d) {σ : Sto} {a0 : Nat} {pa1 : Nat} {r : Sto} (h : F_X6_copyLog σ a0 pa1 = some r) : Mi G d m_X6_copyLog 6 a0 [.ref pa1] σ (.inl none) r := by
  rw [F_X6_copyLog] at h
  obtain ⟨hg, h⟩ := chk_some h
  refine ⟨J.toMt (lo := [(0, .ref a0), (1, .ref pa1)]) pn_RX6 rfl hl (Nat.le_of_ble_eq_true rfl) rfl ?_, hg⟩
  refine r_aload_n (dc_X6_copyLog 0 rfl) rfl rfl ?_
  refine r_aload_n (dc_X6_copyLog 1 rfl) rfl rfl ?_
  obtain ⟨x1, e0, h⟩ := Option.bind_eq_some_iff.mp h
  refine r_getI (dc_X6_copyLog 2 rfl) fl_RX6_37 e0 ?_
  obtain ⟨s2, e0, h⟩ := Option.bind_eq_some_iff.mp h
  refine r_put (dc_X6_copyLog 3 rfl) pl_RX6_37 rfl e0 ?_
  refine r_aload_n (dc_X6_copyLog 4 rfl) rfl rfl ?_
  obtain ⟨p3, e0, h⟩ := Option.bind_eq_some_iff.mp h
  refine r_getR (dc_X6_copyLog 5 rfl) fl_RX6_21 e0 ?_
  refine r_iconst (dc_X6_copyLog 6 rfl) kiconst_0 ?_
  refine r_aload_n (dc_X6_copyLog 7 rfl) rfl rfl ?_
  obtain ⟨p4, e0, h⟩ := Option.bind_eq_some_iff.mp h
  refine r_getR (dc_X6_copyLog 8 rfl) fl_RX6_21 e0 ?_
  refine r_iconst (dc_X6_copyLog 9 rfl) kiconst_0 ?_
  refine r_aload_n (dc_X6_copyLog 10 rfl) rfl rfl ?_
  obtain ⟨x5, e0, h⟩ := Option.bind_eq_some_iff.mp h
  refine r_getI (dc_X6_copyLog 11 rfl) fl_RX6_37 e0 ?_
  obtain ⟨s6, e0, h⟩ := Option.bind_eq_some_iff.mp h
  refine r_acp (dc_X6_copyLog 12 rfl) ml_RX6_49 w_acp1 w_acp2 w_acp3 (by omega) (Nat.le_of_ble_eq_true rfl) e0 ?_
  cases h
  exact r_vreturn (dc_X6_copyLog 13 rfl) rfl
theorem t_X6_copyOf {G : Gx} {d : Nat} (hl : G.1.stackTraces = false) (hd : 3 ≤ d) {σ : Sto} {a0 : Nat} {pa1 : Nat} {r : Sto} (h : F_X6_copyOf σ a0 pa1 = some r) : Mi G d m_X6_copyOf 6 a0 [.ref pa1] σ (.inl none) r := by
  rw [F_X6_copyOf] at h
  obtain ⟨hg, h⟩ := chk_some h
  refine ⟨J.toMt (lo := [(0, .ref a0), (1, .ref pa1)]) pn_RX6 rfl hl (Nat.le_of_ble_eq_true rfl) rfl ?_, hg⟩
  refine r_aload_n (dc_X6_copyOf 0 rfl) rfl rfl ?_
  obtain ⟨p1, e0, h⟩ := Option.bind_eq_some_iff.mp h
  refine r_getR (dc_X6_copyOf 1 rfl) fl_RX6_12 e0 ?_
  refine r_aload_n (dc_X6_copyOf 2 rfl) rfl rfl ?_
  obtain ⟨p2, e0, h⟩ := Option.bind_eq_some_iff.mp h
  refine r_getR (dc_X6_copyOf 3 rfl) fl_RX6_12 e0 ?_
  obtain ⟨s3, e0, h⟩ := Option.bind_eq_some_iff.mp h
  refine r_callV (dc_X6_copyOf 4 rfl) mv_X1_copyOf ml_RX6_41 (As := [.ref p2]) (t_X1_copyOf (d := d - 1) hl (by omega) e0) (by omega) rfl (Nat.le_of_ble_eq_true rfl) ?_
  refine r_aload_n (dc_X6_copyOf 5 rfl) rfl rfl ?_
  obtain ⟨p4, e0, h⟩ := Option.bind_eq_some_iff.mp h
  refine r_getR (dc_X6_copyOf 6 rfl) fl_RX6_18 e0 ?_
  refine r_aload_n (dc_X6_copyOf 7 rfl) rfl rfl ?_
  obtain ⟨p5, e0, h⟩ := Option.bind_eq_some_iff.mp h
  refine r_getR (dc_X6_copyOf 8 rfl) fl_RX6_18 e0 ?_
  obtain ⟨s6, e0, h⟩ := Option.bind_eq_some_iff.mp h
  refine r_callV (dc_X6_copyOf 9 rfl) mv_X1_copyOf ml_RX6_41 (As := [.ref p5]) (t_X1_copyOf (d := d - 1) hl (by omega) e0) (by omega) rfl (Nat.le_of_ble_eq_true rfl) ?_
  refine r_aload_n (dc_X6_copyOf 10 rfl) rfl rfl ?_
  refine r_aload_n (dc_X6_copyOf 11 rfl) rfl rfl ?_
  obtain ⟨s7, e0, h⟩ := Option.bind_eq_some_iff.mp h
  refine r_callV (dc_X6_copyOf 12 rfl) mv_X6_copyLog ml_RX6_45 (As := [.ref pa1]) (t_X6_copyLog (d := d - 1) hl (by omega) e0) (by omega) rfl (Nat.le_of_ble_eq_true rfl) ?_
  refine r_aload_n (dc_X6_copyOf 13 rfl) rfl rfl ?_
  obtain ⟨p8, e0, h⟩ := Option.bind_eq_some_iff.mp h
  refine r_getR (dc_X6_copyOf 14 rfl) fl_RX6_25 e0 ?_
  refine r_iconst (dc_X6_copyOf 15 rfl) kiconst_0 ?_
  refine r_aload_n (dc_X6_copyOf 16 rfl) rfl rfl ?_
  obtain ⟨p9, e0, h⟩ := Option.bind_eq_some_iff.mp h
  refine r_getR (dc_X6_copyOf 17 rfl) fl_RX6_25 e0 ?_
  refine r_iconst (dc_X6_copyOf 18 rfl) kiconst_0 ?_
  refine r_bipush (dc_X6_copyOf 19 rfl) kbipush_25 ?_
  obtain ⟨s10, e0, h⟩ := Option.bind_eq_some_iff.mp h
  refine r_acp (dc_X6_copyOf 20 rfl) ml_RX6_49 w_acp1 w_acp2 w_acp3 (by omega) (Nat.le_of_ble_eq_true rfl) e0 ?_
  refine r_aload_n (dc_X6_copyOf 21 rfl) rfl rfl ?_
  obtain ⟨p11, e0, h⟩ := Option.bind_eq_some_iff.mp h
  refine r_getR (dc_X6_copyOf 22 rfl) fl_RX6_28 e0 ?_
  refine r_iconst (dc_X6_copyOf 23 rfl) kiconst_0 ?_
  refine r_aload_n (dc_X6_copyOf 24 rfl) rfl rfl ?_
  obtain ⟨p12, e0, h⟩ := Option.bind_eq_some_iff.mp h
  refine r_getR (dc_X6_copyOf 25 rfl) fl_RX6_28 e0 ?_
  refine r_iconst (dc_X6_copyOf 26 rfl) kiconst_0 ?_
  refine r_bipush (dc_X6_copyOf 27 rfl) kbipush_120 ?_
  obtain ⟨s13, e0, h⟩ := Option.bind_eq_some_iff.mp h
  refine r_acp (dc_X6_copyOf 28 rfl) ml_RX6_49 w_acp1 w_acp2 w_acp3 (by omega) (Nat.le_of_ble_eq_true rfl) e0 ?_
  refine r_aload_n (dc_X6_copyOf 29 rfl) rfl rfl ?_
  obtain ⟨p14, e0, h⟩ := Option.bind_eq_some_iff.mp h
  refine r_getR (dc_X6_copyOf 30 rfl) fl_RX6_31 e0 ?_
  refine r_iconst (dc_X6_copyOf 31 rfl) kiconst_0 ?_
  refine r_aload_n (dc_X6_copyOf 32 rfl) rfl rfl ?_
  obtain ⟨p15, e0, h⟩ := Option.bind_eq_some_iff.mp h
  refine r_getR (dc_X6_copyOf 33 rfl) fl_RX6_31 e0 ?_
  refine r_iconst (dc_X6_copyOf 34 rfl) kiconst_0 ?_
  refine r_bipush (dc_X6_copyOf 35 rfl) kbipush_120 ?_
  obtain ⟨s16, e0, h⟩ := Option.bind_eq_some_iff.mp h
  refine r_acp (dc_X6_copyOf 36 rfl) ml_RX6_49 w_acp1 w_acp2 w_acp3 (by omega) (Nat.le_of_ble_eq_true rfl) e0 ?_
  cases h
  exact r_vreturn (dc_X6_copyOf 37 rfl) rfl
theorem l_X5_allLogsAreEmpty_L2 {G : Gx} {d : Nat} (hl : G.1.stackTraces = false) (hd : 0 ≤ d) {sL : Sto} {pL0 : Nat} {r : Int32} {k33 : Option Int32}
    (hk33 : k33  = some r → J G d m_X5_allLogsAreEmpty 33 [] [] sL (.inl (some (.int r))) sL)
  : ∀ (f : Nat) (xL1 : Int32), F_X5_allLogsAreEmpty_L2 sL pL0 f xL1 k33 = some r → J G d m_X5_allLogsAreEmpty 2 [(0, .ref pL0), (1, .int xL1)] [] sL (.inl (some (.int r))) sL := by
  intro f
  induction f with
  | zero => intro xL1 h; rw [F_X5_allLogsAreEmpty_L2] at h; cases h
  | succ f ih =>
    intro xL1 h
    rw [F_X5_allLogsAreEmpty_L2] at h
    refine r_iload_n (dc_X5_allLogsAreEmpty 2 rfl) rfl rfl ?_
    refine r_aload_n (dc_X5_allLogsAreEmpty 3 rfl) rfl rfl ?_
    obtain ⟨p1, e0, h⟩ := Option.bind_eq_some_iff.mp h
    refine r_getR (dc_X5_allLogsAreEmpty 4 rfl) fl_RX5_40 e0 ?_
    obtain ⟨x2, e0, h⟩ := Option.bind_eq_some_iff.mp h
    refine r_getI (dc_X5_allLogsAreEmpty 5 rfl) fl_RX5_45 e0 ?_
    refine r_icmp_ge (dc_X5_allLogsAreEmpty 6 rfl) (tgt := 33) (by decide) (fun c0 => ?_) (fun c0 => ?_)
    · rw [if_pos c0] at h
      refine r_pick [] (lo' := []) rfl ?_
      exact hk33  h
    · rw [if_neg c0] at h
      refine r_aload_n (dc_X5_allLogsAreEmpty 7 rfl) rfl rfl ?_
      obtain ⟨p3, e0, h⟩ := Option.bind_eq_some_iff.mp h
      refine r_getR (dc_X5_allLogsAreEmpty 8 rfl) fl_RX5_11 e0 ?_
      refine r_iload_n (dc_X5_allLogsAreEmpty 9 rfl) rfl rfl ?_
      obtain ⟨p4, e0, h⟩ := Option.bind_eq_some_iff.mp h
      refine r_aaldR (dc_X5_allLogsAreEmpty 10 rfl) (kd := 4) rfl e0 ?_
      obtain ⟨x5, e0, h⟩ := Option.bind_eq_some_iff.mp h
      refine r_getI (dc_X5_allLogsAreEmpty 11 rfl) fl_RX5_110 e0 ?_
      refine r_if_le (dc_X5_allLogsAreEmpty 12 rfl) (tgt := 27) (by decide) (fun c0 => ?_) (fun c0 => ?_)
      · rw [if_pos c0] at h
        refine r_iinc (dc_X5_allLogsAreEmpty 15 rfl) rfl (kinc_1 _) (by decide) (lo' := [(1, .int (xL1 + (1 : Int32))), (0, .ref pL0)]) rfl ?_
        refine r_goto (dc_X5_allLogsAreEmpty 16 rfl) (tgt := 2) (by decide) ?_
        refine r_pick [1, 0] (lo' := [(0, .ref pL0), (1, .int (xL1 + (1 : Int32)))]) rfl ?_
        exact ih _ h
      · rw [if_neg c0] at h
        refine r_iconst (dc_X5_allLogsAreEmpty 13 rfl) kiconst_0 ?_
        cases h
        exact r_zreturn (dc_X5_allLogsAreEmpty 14 rfl) rfl (Or.inl rfl)
theorem t_X5_allLogsAreEmpty {G : Gx} {d : Nat} (hl : G.1.stackTraces = false) (hd : 0 ≤ d) {σ : Sto} {a0 : Nat} {r : Int32} (h : F_X5_allLogsAreEmpty σ a0 = some r) : Mi G d m_X5_allLogsAreEmpty 5 a0 [] σ (.inl (some (.int r))) σ := by
  rw [F_X5_allLogsAreEmpty] at h
  obtain ⟨hg, h⟩ := chk_some h
  refine ⟨J.toMt (lo := [(0, .ref a0)]) pn_RX5 rfl hl (Nat.le_of_ble_eq_true rfl) rfl ?_, hg⟩
  refine r_iconst (dc_X5_allLogsAreEmpty 0 rfl) kiconst_0 ?_
  refine r_istore_n (dc_X5_allLogsAreEmpty 1 rfl) rfl (by decide) (lo' := [(1, .int (0 : Int32)), (0, .ref a0)]) rfl ?_
  refine r_pick [1, 0] (lo' := [(0, .ref a0), (1, .int (0 : Int32))]) rfl ?_
  refine l_X5_allLogsAreEmpty_L2 hl hd (hk33 := ?_) fu _ h
  · intro h
    refine r_iconst (dc_X5_allLogsAreEmpty 17 rfl) kiconst_1 ?_
    cases h
    exact r_zreturn (dc_X5_allLogsAreEmpty 18 rfl) rfl (Or.inr rfl)
theorem l_X5_allHaveAlike_L2 {G : Gx} {d : Nat} (hl : G.1.stackTraces = false) (hd : 1 ≤ d) {sL : Sto} {pL0 : Nat} {r : Int32} {k45 : Option Int32}
    (hk45 : k45  = some r → J G d m_X5_allHaveAlike 45 [] [] sL (.inl (some (.int r))) sL)
  : ∀ (f : Nat) (xL1 : Int32), F_X5_allHaveAlike_L2 sL pL0 f xL1 k45 = some r → J G d m_X5_allHaveAlike 2 [(0, .ref pL0), (1, .int xL1)] [] sL (.inl (some (.int r))) sL := by
  intro f
  induction f with
  | zero => intro xL1 h; rw [F_X5_allHaveAlike_L2] at h; cases h
  | succ f ih =>
    intro xL1 h
    rw [F_X5_allHaveAlike_L2] at h
    refine r_iload_n (dc_X5_allHaveAlike 2 rfl) rfl rfl ?_
    refine r_aload_n (dc_X5_allHaveAlike 3 rfl) rfl rfl ?_
    obtain ⟨p1, e0, h⟩ := Option.bind_eq_some_iff.mp h
    refine r_getR (dc_X5_allHaveAlike 4 rfl) fl_RX5_40 e0 ?_
    obtain ⟨x2, e0, h⟩ := Option.bind_eq_some_iff.mp h
    refine r_getI (dc_X5_allHaveAlike 5 rfl) fl_RX5_45 e0 ?_
    refine r_icmp_ge (dc_X5_allHaveAlike 6 rfl) (tgt := 45) (by decide) (fun c0 => ?_) (fun c0 => ?_)
    · rw [if_pos c0] at h
      refine r_pick [] (lo' := []) rfl ?_
      exact hk45  h
    · rw [if_neg c0] at h
      refine r_aload_n (dc_X5_allHaveAlike 7 rfl) rfl rfl ?_
      obtain ⟨p3, e0, h⟩ := Option.bind_eq_some_iff.mp h
      refine r_getR (dc_X5_allHaveAlike 8 rfl) fl_RX5_11 e0 ?_
      refine r_iload_n (dc_X5_allHaveAlike 9 rfl) rfl rfl ?_
      obtain ⟨p4, e0, h⟩ := Option.bind_eq_some_iff.mp h
      refine r_aaldR (dc_X5_allHaveAlike 10 rfl) (kd := 4) rfl e0 ?_
      obtain ⟨p5, e0, h⟩ := Option.bind_eq_some_iff.mp h
      refine r_getR (dc_X5_allHaveAlike 11 rfl) fl_RX5_69 e0 ?_
      refine r_aload_n (dc_X5_allHaveAlike 12 rfl) rfl rfl ?_
      obtain ⟨p6, e0, h⟩ := Option.bind_eq_some_iff.mp h
      refine r_getR (dc_X5_allHaveAlike 13 rfl) fl_RX5_11 e0 ?_
      refine r_iconst (dc_X5_allHaveAlike 14 rfl) kiconst_0 ?_
      obtain ⟨p7, e0, h⟩ := Option.bind_eq_some_iff.mp h
      refine r_aaldR (dc_X5_allHaveAlike 15 rfl) (kd := 4) rfl e0 ?_
      obtain ⟨p8, e0, h⟩ := Option.bind_eq_some_iff.mp h
      refine r_getR (dc_X5_allHaveAlike 16 rfl) fl_RX5_69 e0 ?_
      obtain ⟨x9, e0, h⟩ := Option.bind_eq_some_iff.mp h
      refine r_callV (dc_X5_allHaveAlike 17 rfl) mv_X1_sameAs ml_RX5_206 (As := [.ref p8]) (t_X1_sameAs (d := d - 1) hl (by omega) e0) (by omega) rfl (Nat.le_of_ble_eq_true rfl) ?_
      refine r_if_ne (dc_X5_allHaveAlike 18 rfl) (tgt := 39) (by decide) (fun c0 => ?_) (fun c0 => ?_)
      · rw [if_neg c0] at h
        refine r_iinc (dc_X5_allHaveAlike 21 rfl) rfl (kinc_1 _) (by decide) (lo' := [(1, .int (xL1 + (1 : Int32))), (0, .ref pL0)]) rfl ?_
        refine r_goto (dc_X5_allHaveAlike 22 rfl) (tgt := 2) (by decide) ?_
        refine r_pick [1, 0] (lo' := [(0, .ref pL0), (1, .int (xL1 + (1 : Int32)))]) rfl ?_
        exact ih _ h
      · rw [if_pos c0] at h
        refine r_iconst (dc_X5_allHaveAlike 19 rfl) kiconst_0 ?_
        cases h
        exact r_zreturn (dc_X5_allHaveAlike 20 rfl) rfl (Or.inl rfl)
theorem t_X5_allHaveAlike {G : Gx} {d : Nat} (hl : G.1.stackTraces = false) (hd : 1 ≤ d) {σ : Sto} {a0 : Nat} {r : Int32} (h : F_X5_allHaveAlike σ a0 = some r) : Mi G d m_X5_allHaveAlike 5 a0 [] σ (.inl (some (.int r))) σ := by
  rw [F_X5_allHaveAlike] at h
  obtain ⟨hg, h⟩ := chk_some h
  refine ⟨J.toMt (lo := [(0, .ref a0)]) pn_RX5 rfl hl (Nat.le_of_ble_eq_true rfl) rfl ?_, hg⟩
  refine r_iconst (dc_X5_allHaveAlike 0 rfl) kiconst_1 ?_
  refine r_istore_n (dc_X5_allHaveAlike 1 rfl) rfl (by decide) (lo' := [(1, .int (1 : Int32)), (0, .ref a0)]) rfl ?_
  refine r_pick [1, 0] (lo' := [(0, .ref a0), (1, .int (1 : Int32))]) rfl ?_
  refine l_X5_allHaveAlike_L2 hl hd (hk45 := ?_) fu _ h
  · intro h
    refine r_iconst (dc_X5_allHaveAlike 23 rfl) kiconst_1 ?_
    cases h
    exact r_zreturn (dc_X5_allHaveAlike 24 rfl) rfl (Or.inr rfl)
theorem t_X8_nextSite {G : Gx} {d : Nat} (hl : G.1.stackTraces = false) (hd : 0 ≤ d) {σ : Sto} {a0 : Nat} {xa1 : Int32} {r : Int32} (h : F_X8_nextSite σ a0 xa1 = some r) : Mi G d m_X8_nextSite 8 a0 [.int xa1] σ (.inl (some (.int r))) σ := by
  rw [F_X8_nextSite] at h
  obtain ⟨hg, h⟩ := chk_some h
  refine ⟨J.toMt (lo := [(0, .ref a0), (1, .int xa1)]) pn_RX8 rfl hl (Nat.le_of_ble_eq_true rfl) rfl ?_, hg⟩
  refine r_iload_n (dc_X8_nextSite 0 rfl) rfl rfl ?_
  refine r_iconst (dc_X8_nextSite 1 rfl) kiconst_1 ?_
  refine r_iadd (dc_X8_nextSite 2 rfl) ?_
  refine r_aload_n (dc_X8_nextSite 3 rfl) rfl rfl ?_
  obtain ⟨x1, e0, h⟩ := Option.bind_eq_some_iff.mp h
  refine r_getI (dc_X8_nextSite 4 rfl) fl_RX8_9 e0 ?_
  refine r_icmp_ge (dc_X8_nextSite 5 rfl) (tgt := 16) (by decide) (fun c0 => ?_) (fun c0 => ?_)
  · rw [if_pos c0] at h
    refine r_iconst (dc_X8_nextSite 10 rfl) kiconst_0 ?_
    cases h
    exact r_ireturn (dc_X8_nextSite 11 rfl) rfl
  · rw [if_neg c0] at h
    refine r_iload_n (dc_X8_nextSite 6 rfl) rfl rfl ?_
    refine r_iconst (dc_X8_nextSite 7 rfl) kiconst_1 ?_
    refine r_iadd (dc_X8_nextSite 8 rfl) ?_
    refine r_goto (dc_X8_nextSite 9 rfl) (tgt := 17) (by decide) ?_
    cases h
    exact r_ireturn (dc_X8_nextSite 11 rfl) rfl
theorem t_X6_appendToLog {G : Gx} {d : Nat} (hl : G.1.stackTraces = false) (hd : 0 ≤ d) {σ : Sto} {a0 : Nat} {xa1 : Int32} {r : Sto} (h : F_X6_appendToLog σ a0 xa1 = some r) : Mi G d m_X6_appendToLog 6 a0 [.int xa1] σ (.inl none) r := by
  rw [F_X6_appendToLog] at h
  obtain ⟨hg, h⟩ := chk_some h
  refine ⟨J.toMt (lo := [(0, .ref a0), (1, .int xa1)]) pn_RX6 rfl hl (Nat.le_of_ble_eq_true rfl) rfl ?_, hg⟩
  refine r_aload_n (dc_X6_appendToLog 0 rfl) rfl rfl ?_
  obtain ⟨x1, e0, h⟩ := Option.bind_eq_some_iff.mp h
  refine r_getI (dc_X6_appendToLog 1 rfl) fl_RX6_37 e0 ?_
  refine r_bipush (dc_X6_appendToLog 2 rfl) kbipush_120 ?_
  refine r_icmp_ge (dc_X6_appendToLog 3 rfl) (tgt := 29) (by decide) (fun c0 => ?_) (fun c0 => ?_)
  · rw [if_pos c0] at h
    cases h
    exact r_vreturn (dc_X6_appendToLog 16 rfl) rfl
  · rw [if_neg c0] at h
    refine r_aload_n (dc_X6_appendToLog 4 rfl) rfl rfl ?_
    obtain ⟨p2, e0, h⟩ := Option.bind_eq_some_iff.mp h
    refine r_getR (dc_X6_appendToLog 5 rfl) fl_RX6_21 e0 ?_
    refine r_aload_n (dc_X6_appendToLog 6 rfl) rfl rfl ?_
    obtain ⟨x3, e0, h⟩ := Option.bind_eq_some_iff.mp h
    refine r_getI (dc_X6_appendToLog 7 rfl) fl_RX6_37 e0 ?_
    refine r_iload_n (dc_X6_appendToLog 8 rfl) rfl rfl ?_
    obtain ⟨s4, e0, h⟩ := Option.bind_eq_some_iff.mp h
    refine r_iast (dc_X6_appendToLog 9 rfl) e0 ?_
    refine r_aload_n (dc_X6_appendToLog 10 rfl) rfl rfl ?_
    refine r_dup (dc_X6_appendToLog 11 rfl) rfl ?_
    obtain ⟨x5, e0, h⟩ := Option.bind_eq_some_iff.mp h
    refine r_getI (dc_X6_appendToLog 12 rfl) fl_RX6_37 e0 ?_
    refine r_iconst (dc_X6_appendToLog 13 rfl) kiconst_1 ?_
    refine r_iadd (dc_X6_appendToLog 14 rfl) ?_
    obtain ⟨s6, e0, h⟩ := Option.bind_eq_some_iff.mp h
    refine r_put (dc_X6_appendToLog 15 rfl) pl_RX6_37 rfl e0 ?_
    cases h
    exact r_vreturn (dc_X6_appendToLog 16 rfl) rfl
theorem t_X6_gain {G : Gx} {d : Nat} (hl : G.1.stackTraces = false) (hd : 1 ≤ d) {σ : Sto} {a0 : Nat} {xa1 : Int32} {xa2 : Int32} {xa3 : Int32} {r : Sto} (h : F_X6_gain σ a0 xa1 xa2 xa3 = some r) : Mi G d m_X6_gain 6 a0 [.int xa1, .int xa2, .int xa3] σ (.inl none) r := by
  rw [F_X6_gain] at h
  obtain ⟨hg, h⟩ := chk_some h
  refine ⟨J.toMt (lo := [(0, .ref a0), (1, .int xa1), (2, .int xa2), (3, .int xa3)]) pn_RX6 rfl hl (Nat.le_of_ble_eq_true rfl) rfl ?_, hg⟩
  refine r_aload_n (dc_X6_gain 0 rfl) rfl rfl ?_
  obtain ⟨p1, e0, h⟩ := Option.bind_eq_some_iff.mp h
  refine r_getR (dc_X6_gain 1 rfl) fl_RX6_18 e0 ?_
  refine r_iload_n (dc_X6_gain 2 rfl) rfl rfl ?_
  obtain ⟨x2, e0, h⟩ := Option.bind_eq_some_iff.mp h
  refine r_callV (dc_X6_gain 3 rfl) mv_X1_holds ml_RX6_82 (As := [.int xa1]) (t_X1_holds (d := d - 1) hl (by omega) e0) (by omega) rfl (Nat.le_of_ble_eq_true rfl) ?_
  refine r_if_ne (dc_X6_gain 4 rfl) (tgt := 33) (by decide) (fun c0 => ?_) (fun c0 => ?_)
  · rw [if_neg c0] at h
    cases h
    exact r_vreturn (dc_X6_gain 19 rfl) rfl
  · rw [if_pos c0] at h
    refine r_aload_n (dc_X6_gain 5 rfl) rfl rfl ?_
    obtain ⟨p3, e0, h⟩ := Option.bind_eq_some_iff.mp h
    refine r_getR (dc_X6_gain 6 rfl) fl_RX6_18 e0 ?_
    refine r_iload_n (dc_X6_gain 7 rfl) rfl rfl ?_
    obtain ⟨s4, e0, h⟩ := Option.bind_eq_some_iff.mp h
    refine r_callV (dc_X6_gain 8 rfl) mv_X1_insert ml_RX6_86 (As := [.int xa1]) (t_X1_insert (d := d - 1) hl (by omega) e0) (by omega) rfl (Nat.le_of_ble_eq_true rfl) ?_
    refine r_aload_n (dc_X6_gain 9 rfl) rfl rfl ?_
    obtain ⟨p5, e0, h⟩ := Option.bind_eq_some_iff.mp h
    refine r_getR (dc_X6_gain 10 rfl) fl_RX6_28 e0 ?_
    refine r_iload_n (dc_X6_gain 11 rfl) rfl rfl ?_
    refine r_iload_n (dc_X6_gain 12 rfl) rfl rfl ?_
    obtain ⟨s6, e0, h⟩ := Option.bind_eq_some_iff.mp h
    refine r_iast (dc_X6_gain 13 rfl) e0 ?_
    refine r_aload_n (dc_X6_gain 14 rfl) rfl rfl ?_
    obtain ⟨p7, e0, h⟩ := Option.bind_eq_some_iff.mp h
    refine r_getR (dc_X6_gain 15 rfl) fl_RX6_31 e0 ?_
    refine r_iload_n (dc_X6_gain 16 rfl) rfl rfl ?_
    refine r_iload_n (dc_X6_gain 17 rfl) rfl rfl ?_
    obtain ⟨s8, e0, h⟩ := Option.bind_eq_some_iff.mp h
    refine r_iast (dc_X6_gain 18 rfl) e0 ?_
    cases h
    exact r_vreturn (dc_X6_gain 19 rfl) rfl
theorem l_X6_changeView_L2 {G : Gx} {d : Nat} (hl : G.1.stackTraces = false) (hd : 1 ≤ d) {pL0 : Nat} {pL1 : Nat} {xL2 : Int32} {r : Sto} {k42 : Sto → Option Sto}
    (hk42 : ∀ (sL : Sto), k42 sL = some r → J G d m_X6_changeView 42 [(0, .ref pL0), (1, .ref pL1), (2, .int xL2)] [] sL (.inl none) r)
  : ∀ (f : Nat) (xL3 : Int32) (sL : Sto), F_X6_changeView_L2 pL0 pL1 f xL3 sL k42 = some r → J G d m_X6_changeView 2 [(0, .ref pL0), (1, .ref pL1), (2, .int xL2), (3, .int xL3)] [] sL (.inl none) r := by
  intro f
  induction f with
  | zero => intro xL3 sL h; rw [F_X6_changeView_L2] at h; cases h
  | succ f ih =>
    intro xL3 sL h
    rw [F_X6_changeView_L2] at h
    refine r_iload_n (dc_X6_changeView 2 rfl) rfl rfl ?_
    refine r_aload_n (dc_X6_changeView 3 rfl) rfl rfl ?_
    obtain ⟨x1, e0, h⟩ := Option.bind_eq_some_iff.mp h
    refine r_getI (dc_X6_changeView 4 rfl) fl_RX6_37 e0 ?_
    refine r_icmp_ge (dc_X6_changeView 5 rfl) (tgt := 42) (by decide) (fun c0 => ?_) (fun c0 => ?_)
    · rw [if_pos c0] at h
      refine r_pick [0, 1, 2] (lo' := [(0, .ref pL0), (1, .ref pL1), (2, .int xL2)]) rfl ?_
      exact hk42 _ h
    · rw [if_neg c0] at h
      refine r_aload_n (dc_X6_changeView 6 rfl) rfl rfl ?_
      refine r_aload_n (dc_X6_changeView 7 rfl) rfl rfl ?_
      obtain ⟨p2, e0, h⟩ := Option.bind_eq_some_iff.mp h
      refine r_getR (dc_X6_changeView 8 rfl) fl_RX6_21 e0 ?_
      refine r_iload_n (dc_X6_changeView 9 rfl) rfl rfl ?_
      obtain ⟨x3, e0, h⟩ := Option.bind_eq_some_iff.mp h
      refine r_iald (dc_X6_changeView 10 rfl) e0 ?_
      obtain ⟨x4, e0, h⟩ := Option.bind_eq_some_iff.mp h
      refine r_callV (dc_X6_changeView 11 rfl) mv_X2_isOut ml_RX6_114 (As := [.int x3]) (t_X2_isOut (d := d - 1) hl (by omega) e0) (by omega) rfl (Nat.le_of_ble_eq_true rfl) ?_
      refine r_if_ne (dc_X6_changeView 12 rfl) (tgt := 36) (by decide) (fun c0 => ?_) (fun c0 => ?_)
      · rw [if_neg c0] at h
        refine r_iinc (dc_X6_changeView 20 rfl) rfl (kinc_1 _) (by decide) (lo' := [(3, .int (xL3 + (1 : Int32))), (0, .ref pL0), (1, .ref pL1), (2, .int xL2)]) rfl ?_
        refine r_goto (dc_X6_changeView 21 rfl) (tgt := 2) (by decide) ?_
        refine r_pick [1, 2, 3, 0] (lo' := [(0, .ref pL0), (1, .ref pL1), (2, .int xL2), (3, .int (xL3 + (1 : Int32)))]) rfl ?_
        exact ih _ _ h
      · rw [if_pos c0] at h
        refine r_aload_n (dc_X6_changeView 13 rfl) rfl rfl ?_
        obtain ⟨p5, e0, h⟩ := Option.bind_eq_some_iff.mp h
        refine r_getR (dc_X6_changeView 14 rfl) fl_RX6_12 e0 ?_
        refine r_aload_n (dc_X6_changeView 15 rfl) rfl rfl ?_
        obtain ⟨p6, e0, h⟩ := Option.bind_eq_some_iff.mp h
        refine r_getR (dc_X6_changeView 16 rfl) fl_RX6_21 e0 ?_
        refine r_iload_n (dc_X6_changeView 17 rfl) rfl rfl ?_
        obtain ⟨x7, e0, h⟩ := Option.bind_eq_some_iff.mp h
        refine r_iald (dc_X6_changeView 18 rfl) e0 ?_
        obtain ⟨s8, e0, h⟩ := Option.bind_eq_some_iff.mp h
        refine r_callV (dc_X6_changeView 19 rfl) mv_X1_insert ml_RX6_86 (As := [.int x7]) (t_X1_insert (d := d - 1) hl (by omega) e0) (by omega) rfl (Nat.le_of_ble_eq_true rfl) ?_
        refine r_iinc (dc_X6_changeView 20 rfl) rfl (kinc_1 _) (by decide) (lo' := [(3, .int (xL3 + (1 : Int32))), (0, .ref pL0), (1, .ref pL1), (2, .int xL2)]) rfl ?_
        refine r_goto (dc_X6_changeView 21 rfl) (tgt := 2) (by decide) ?_
        refine r_pick [1, 2, 3, 0] (lo' := [(0, .ref pL0), (1, .ref pL1), (2, .int xL2), (3, .int (xL3 + (1 : Int32)))]) rfl ?_
        exact ih _ _ h
theorem l_X6_changeView_L44 {G : Gx} {d : Nat} (hl : G.1.stackTraces = false) (hd : 1 ≤ d) {pL0 : Nat} {pL1 : Nat} {r : Sto} {k89 : Sto → Option Sto}
    (hk89 : ∀ (sL : Sto), k89 sL = some r → J G d m_X6_changeView 89 [] [] sL (.inl none) r)
  : ∀ (f : Nat) (xL3 : Int32) (sL : Sto), F_X6_changeView_L44 pL0 pL1 f xL3 sL k89 = some r → J G d m_X6_changeView 44 [(0, .ref pL0), (1, .ref pL1), (3, .int xL3)] [] sL (.inl none) r := by
  intro f
  induction f with
  | zero => intro xL3 sL h; rw [F_X6_changeView_L44] at h; cases h
  | succ f ih =>
    intro xL3 sL h
    rw [F_X6_changeView_L44] at h
    refine r_iload_n (dc_X6_changeView 24 rfl) rfl rfl ?_
    refine r_aload_n (dc_X6_changeView 25 rfl) rfl rfl ?_
    obtain ⟨x10, e0, h⟩ := Option.bind_eq_some_iff.mp h
    refine r_getI (dc_X6_changeView 26 rfl) fl_RX6_37 e0 ?_
    refine r_icmp_ge (dc_X6_changeView 27 rfl) (tgt := 89) (by decide) (fun c0 => ?_) (fun c0 => ?_)
    · rw [if_pos c0] at h
      refine r_pick [] (lo' := []) rfl ?_
      exact hk89 _ h
    · rw [if_neg c0] at h
      refine r_aload_n (dc_X6_changeView 28 rfl) rfl rfl ?_
      refine r_aload_n (dc_X6_changeView 29 rfl) rfl rfl ?_
      obtain ⟨p11, e0, h⟩ := Option.bind_eq_some_iff.mp h
      refine r_getR (dc_X6_changeView 30 rfl) fl_RX6_21 e0 ?_
      refine r_iload_n (dc_X6_changeView 31 rfl) rfl rfl ?_
      obtain ⟨x12, e0, h⟩ := Option.bind_eq_some_iff.mp h
      refine r_iald (dc_X6_changeView 32 rfl) e0 ?_
      obtain ⟨x13, e0, h⟩ := Option.bind_eq_some_iff.mp h
      refine r_callV (dc_X6_changeView 33 rfl) mv_X2_isOut ml_RX6_114 (As := [.int x12]) (t_X2_isOut (d := d - 1) hl (by omega) e0) (by omega) rfl (Nat.le_of_ble_eq_true rfl) ?_
      refine r_if_eq (dc_X6_changeView 34 rfl) (tgt := 83) (by decide) (fun c0 => ?_) (fun c0 => ?_)
      · rw [if_pos c0] at h
        refine r_iinc (dc_X6_changeView 45 rfl) rfl (kinc_1 _) (by decide) (lo' := [(3, .int (xL3 + (1 : Int32))), (0, .ref pL0), (1, .ref pL1)]) rfl ?_
        refine r_goto (dc_X6_changeView 46 rfl) (tgt := 44) (by decide) ?_
        refine r_pick [1, 2, 0] (lo' := [(0, .ref pL0), (1, .ref pL1), (3, .int (xL3 + (1 : Int32)))]) rfl ?_
        exact ih _ _ h
      · rw [if_neg c0] at h
        refine r_aload_n (dc_X6_changeView 35 rfl) rfl rfl ?_
        obtain ⟨p14, e0, h⟩ := Option.bind_eq_some_iff.mp h
        refine r_getR (dc_X6_changeView 36 rfl) fl_RX6_12 e0 ?_
        refine r_aload_n (dc_X6_changeView 37 rfl) rfl rfl ?_
        obtain ⟨p15, e0, h⟩ := Option.bind_eq_some_iff.mp h
        refine r_getR (dc_X6_changeView 38 rfl) fl_RX6_117 e0 ?_
        refine r_aload_n (dc_X6_changeView 39 rfl) rfl rfl ?_
        obtain ⟨p16, e0, h⟩ := Option.bind_eq_some_iff.mp h
        refine r_getR (dc_X6_changeView 40 rfl) fl_RX6_21 e0 ?_
        refine r_iload_n (dc_X6_changeView 41 rfl) rfl rfl ?_
        obtain ⟨x17, e0, h⟩ := Option.bind_eq_some_iff.mp h
        refine r_iald (dc_X6_changeView 42 rfl) e0 ?_
        obtain ⟨x18, e0, h⟩ := Option.bind_eq_some_iff.mp h
        refine r_iald (dc_X6_changeView 43 rfl) e0 ?_
        obtain ⟨s19, e0, h⟩ := Option.bind_eq_some_iff.mp h
        refine r_callV (dc_X6_changeView 44 rfl) mv_X1_remove ml_RX6_120 (As := [.int x18]) (t_X1_remove (d := d - 1) hl (by omega) e0) (by omega) rfl (Nat.le_of_ble_eq_true rfl) ?_
        refine r_iinc (dc_X6_changeView 45 rfl) rfl (kinc_1 _) (by decide) (lo' := [(3, .int (xL3 + (1 : Int32))), (0, .ref pL0), (1, .ref pL1)]) rfl ?_
        refine r_goto (dc_X6_changeView 46 rfl) (tgt := 44) (by decide) ?_
        refine r_pick [1, 2, 0] (lo' := [(0, .ref pL0), (1, .ref pL1), (3, .int (xL3 + (1 : Int32)))]) rfl ?_
        exact ih _ _ h
theorem t_X6_changeView {G : Gx} {d : Nat} (hl : G.1.stackTraces = false) (hd : 1 ≤ d) {σ : Sto} {a0 : Nat} {pa1 : Nat} {xa2 : Int32} {r : Sto} (h : F_X6_changeView σ a0 pa1 xa2 = some r) : Mi G d m_X6_changeView 6 a0 [.ref pa1, .int xa2] σ (.inl none) r := by
  rw [F_X6_changeView] at h
  obtain ⟨hg, h⟩ := chk_some h
  refine ⟨J.toMt (lo := [(0, .ref a0), (1, .ref pa1), (2, .int xa2)]) pn_RX6 rfl hl (Nat.le_of_ble_eq_true rfl) rfl ?_, hg⟩
  refine r_iload_n (dc_X6_changeView 0 rfl) rfl rfl ?_
  refine r_istore_n (dc_X6_changeView 1 rfl) rfl (by decide) (lo' := [(3, .int xa2), (0, .ref a0), (1, .ref pa1), (2, .int xa2)]) rfl ?_
  refine r_pick [1, 2, 3, 0] (lo' := [(0, .ref a0), (1, .ref pa1), (2, .int xa2), (3, .int xa2)]) rfl ?_
  refine l_X6_changeView_L2 hl hd (hk42 := ?_) fu _ _ h
  · intro s9 h
    refine r_iload_n (dc_X6_changeView 22 rfl) rfl rfl ?_
    refine r_istore_n (dc_X6_changeView 23 rfl) rfl (by decide) (lo' := [(3, .int xa2), (0, .ref a0), (1, .ref pa1), (2, .int xa2)]) rfl ?_
    refine r_pick [1, 2, 0] (lo' := [(0, .ref a0), (1, .ref pa1), (3, .int xa2)]) rfl ?_
    refine l_X6_changeView_L44 hl hd (hk89 := ?_) fu _ _ h
    · intro s20 h
      cases h
      exact r_vreturn (dc_X6_changeView 47 rfl) rfl
theorem t_X6_raise {G : Gx} {d : Nat} (hl : G.1.stackTraces = false) (hd : 0 ≤ d) {σ : Sto} {a0 : Nat} {xa1 : Int32} {xa2 : Int32} {xa3 : Int32} {r : Sto} (h : F_X6_raise σ a0 xa1 xa2 xa3 = some r) : Mi G d m_X6_raise 6 a0 [.int xa1, .int xa2, .int xa3] σ (.inl none) r := by
  rw [F_X6_raise] at h
  obtain ⟨hg, h⟩ := chk_some h
  refine ⟨J.toMt (lo := [(0, .ref a0), (1, .int xa1), (2, .int xa2), (3, .int xa3)]) pn_RX6 rfl hl (Nat.le_of_ble_eq_true rfl) rfl ?_, hg⟩
  refine r_iload_n (dc_X6_raise 0 rfl) rfl rfl ?_
  refine r_iconst (dc_X6_raise 1 rfl) kiconst_5 ?_
  refine r_imul (dc_X6_raise 2 rfl) ?_
  refine r_iload_n (dc_X6_raise 3 rfl) rfl rfl ?_
  refine r_iadd (dc_X6_raise 4 rfl) ?_
  refine r_istore (dc_X6_raise 5 rfl) (by decide) (lo' := [(4, .int ((xa1 * (5 : Int32)) + xa2)), (0, .ref a0), (1, .int xa1), (2, .int xa2), (3, .int xa3)]) rfl ?_
  refine r_aload_n (dc_X6_raise 6 rfl) rfl rfl ?_
  obtain ⟨p1, e0, h⟩ := Option.bind_eq_some_iff.mp h
  refine r_getR (dc_X6_raise 7 rfl) fl_RX6_25 e0 ?_
  refine r_iload (dc_X6_raise 8 rfl) rfl ?_
  refine r_iload_n (dc_X6_raise 9 rfl) rfl rfl ?_
  refine r_aload_n (dc_X6_raise 10 rfl) rfl rfl ?_
  obtain ⟨p2, e0, h⟩ := Option.bind_eq_some_iff.mp h
  refine r_getR (dc_X6_raise 11 rfl) fl_RX6_25 e0 ?_
  refine r_iload (dc_X6_raise 12 rfl) rfl ?_
  obtain ⟨x3, e0, h⟩ := Option.bind_eq_some_iff.mp h
  refine r_iald (dc_X6_raise 13 rfl) e0 ?_
  refine r_icmp_le (dc_X6_raise 14 rfl) (tgt := 28) (by decide) (fun c0 => ?_) (fun c0 => ?_)
  · rw [if_pos c0] at h
    refine r_aload_n (dc_X6_raise 17 rfl) rfl rfl ?_
    obtain ⟨p4, e0, h⟩ := Option.bind_eq_some_iff.mp h
    refine r_getR (dc_X6_raise 18 rfl) fl_RX6_25 e0 ?_
    refine r_iload (dc_X6_raise 19 rfl) rfl ?_
    obtain ⟨x5, e0, h⟩ := Option.bind_eq_some_iff.mp h
    refine r_iald (dc_X6_raise 20 rfl) e0 ?_
    obtain ⟨s6, e0, h⟩ := Option.bind_eq_some_iff.mp h
    refine r_iast (dc_X6_raise 21 rfl) e0 ?_
    cases h
    exact r_vreturn (dc_X6_raise 22 rfl) rfl
  · rw [if_neg c0] at h
    refine r_iload_n (dc_X6_raise 15 rfl) rfl rfl ?_
    refine r_goto (dc_X6_raise 16 rfl) (tgt := 35) (by decide) ?_
    obtain ⟨s7, e0, h⟩ := Option.bind_eq_some_iff.mp h
    refine r_iast (dc_X6_raise 21 rfl) e0 ?_
    cases h
    exact r_vreturn (dc_X6_raise 22 rfl) rfl
theorem l_X6_raiseRow_L3 {G : Gx} {d : Nat} (hl : G.1.stackTraces = false) (hd : 0 ≤ d) {pL0 : Nat} {xL1 : Int32} {pL2 : Nat} {xL3 : Int32} {r : Sto} {k64 : Sto → Option Sto}
    (hk64 : ∀ (sL : Sto), k64 sL = some r → J G d m_X6_raiseRow 64 [] [] sL (.inl none) r)
  : ∀ (f : Nat) (xL4 : Int32) (sL : Sto), F_X6_raiseRow_L3 pL0 xL1 pL2 xL3 f xL4 sL k64 = some r → J G d m_X6_raiseRow 3 [(0, .ref pL0), (1, .int xL1), (2, .ref pL2), (3, .int xL3), (4, .int xL4)] [] sL (.inl none) r := by
  intro f
  induction f with
  | zero => intro xL4 sL h; rw [F_X6_raiseRow_L3] at h; cases h
  | succ f ih =>
    intro xL4 sL h
    rw [F_X6_raiseRow_L3] at h
    refine r_iload (dc_X6_raiseRow 2 rfl) rfl ?_
    refine r_iconst (dc_X6_raiseRow 3 rfl) kiconst_5 ?_
    refine r_icmp_ge (dc_X6_raiseRow 4 rfl) (tgt := 64) (by decide) (fun c0 => ?_) (fun c0 => ?_)
    · rw [if_pos c0] at h
      refine r_pick [] (lo' := []) rfl ?_
      exact hk64 _ h
    · rw [if_neg c0] at h
      refine r_iload_n (dc_X6_raiseRow 5 rfl) rfl rfl ?_
      refine r_iconst (dc_X6_raiseRow 6 rfl) kiconst_5 ?_
      refine r_imul (dc_X6_raiseRow 7 rfl) ?_
      refine r_iload (dc_X6_raiseRow 8 rfl) rfl ?_
      refine r_iadd (dc_X6_raiseRow 9 rfl) ?_
      refine r_istore (dc_X6_raiseRow 10 rfl) (by decide) (lo' := [(5, .int ((xL1 * (5 : Int32)) + xL4)), (0, .ref pL0), (1, .int xL1), (2, .ref pL2), (3, .int xL3), (4, .int xL4)]) rfl ?_
      refine r_aload_n (dc_X6_raiseRow 11 rfl) rfl rfl ?_
      refine r_iload_n (dc_X6_raiseRow 12 rfl) rfl rfl ?_
      refine r_iconst (dc_X6_raiseRow 13 rfl) kiconst_5 ?_
      refine r_imul (dc_X6_raiseRow 14 rfl) ?_
      refine r_iload (dc_X6_raiseRow 15 rfl) rfl ?_
      refine r_iadd (dc_X6_raiseRow 16 rfl) ?_
      obtain ⟨x1, e0, h⟩ := Option.bind_eq_some_iff.mp h
      refine r_iald (dc_X6_raiseRow 17 rfl) e0 ?_
      refine r_istore (dc_X6_raiseRow 18 rfl) (by decide) (lo' := [(6, .int x1), (5, .int ((xL1 * (5 : Int32)) + xL4)), (0, .ref pL0), (1, .int xL1), (2, .ref pL2), (3, .int xL3), (4, .int xL4)]) rfl ?_
      refine r_aload_n (dc_X6_raiseRow 19 rfl) rfl rfl ?_
      obtain ⟨p2, e0, h⟩ := Option.bind_eq_some_iff.mp h
      refine r_getR (dc_X6_raiseRow 20 rfl) fl_RX6_25 e0 ?_
      refine r_iload (dc_X6_raiseRow 21 rfl) rfl ?_
      refine r_iload (dc_X6_raiseRow 22 rfl) rfl ?_
      refine r_aload_n (dc_X6_raiseRow 23 rfl) rfl rfl ?_
      obtain ⟨p3, e0, h⟩ := Option.bind_eq_some_iff.mp h
      refine r_getR (dc_X6_raiseRow 24 rfl) fl_RX6_25 e0 ?_
      refine r_iload (dc_X6_raiseRow 25 rfl) rfl ?_
      obtain ⟨x4, e0, h⟩ := Option.bind_eq_some_iff.mp h
      refine r_iald (dc_X6_raiseRow 26 rfl) e0 ?_
      refine r_icmp_le (dc_X6_raiseRow 27 rfl) (tgt := 50) (by decide) (fun c0 => ?_) (fun c0 => ?_)
      · rw [if_pos c0] at h
        refine r_aload_n (dc_X6_raiseRow 30 rfl) rfl rfl ?_
        obtain ⟨p5, e0, h⟩ := Option.bind_eq_some_iff.mp h
        refine r_getR (dc_X6_raiseRow 31 rfl) fl_RX6_25 e0 ?_
        refine r_iload (dc_X6_raiseRow 32 rfl) rfl ?_
        obtain ⟨x6, e0, h⟩ := Option.bind_eq_some_iff.mp h
        refine r_iald (dc_X6_raiseRow 33 rfl) e0 ?_
        obtain ⟨s7, e0, h⟩ := Option.bind_eq_some_iff.mp h
        refine r_iast (dc_X6_raiseRow 34 rfl) e0 ?_
        refine r_iinc (dc_X6_raiseRow 35 rfl) rfl (kinc_1 _) (by decide) (lo' := [(4, .int (xL4 + (1 : Int32))), (6, .int x1), (5, .int ((xL1 * (5 : Int32)) + xL4)), (0, .ref pL0), (1, .int xL1), (2, .ref pL2), (3, .int xL3)]) rfl ?_
        refine r_goto (dc_X6_raiseRow 36 rfl) (tgt := 3) (by decide) ?_
        refine r_pick [3, 4, 5, 6, 0] (lo' := [(0, .ref pL0), (1, .int xL1), (2, .ref pL2), (3, .int xL3), (4, .int (xL4 + (1 : Int32)))]) rfl ?_
        exact ih _ _ h
      · rw [if_neg c0] at h
        refine r_iload (dc_X6_raiseRow 28 rfl) rfl ?_
        refine r_goto (dc_X6_raiseRow 29 rfl) (tgt := 57) (by decide) ?_
        obtain ⟨s8, e0, h⟩ := Option.bind_eq_some_iff.mp h
        refine r_iast (dc_X6_raiseRow 34 rfl) e0 ?_
        refine r_iinc (dc_X6_raiseRow 35 rfl) rfl (kinc_1 _) (by decide) (lo' := [(4, .int (xL4 + (1 : Int32))), (6, .int x1), (5, .int ((xL1 * (5 : Int32)) + xL4)), (0, .ref pL0), (1, .int xL1), (2, .ref pL2), (3, .int xL3)]) rfl ?_
        refine r_goto (dc_X6_raiseRow 36 rfl) (tgt := 3) (by decide) ?_
        refine r_pick [3, 4, 5, 6, 0] (lo' := [(0, .ref pL0), (1, .int xL1), (2, .ref pL2), (3, .int xL3), (4, .int (xL4 + (1 : Int32)))]) rfl ?_
        exact ih _ _ h
theorem t_X6_raiseRow {G : Gx} {d : Nat} (hl : G.1.stackTraces = false) (hd : 0 ≤ d) {σ : Sto} {a0 : Nat} {xa1 : Int32} {pa2 : Nat} {xa3 : Int32} {r : Sto} (h : F_X6_raiseRow σ a0 xa1 pa2 xa3 = some r) : Mi G d m_X6_raiseRow 6 a0 [.int xa1, .ref pa2, .int xa3] σ (.inl none) r := by
  rw [F_X6_raiseRow] at h
  obtain ⟨hg, h⟩ := chk_some h
  refine ⟨J.toMt (lo := [(0, .ref a0), (1, .int xa1), (2, .ref pa2), (3, .int xa3)]) pn_RX6 rfl hl (Nat.le_of_ble_eq_true rfl) rfl ?_, hg⟩
  refine r_iconst (dc_X6_raiseRow 0 rfl) kiconst_0 ?_
  refine r_istore (dc_X6_raiseRow 1 rfl) (by decide) (lo' := [(4, .int (0 : Int32)), (0, .ref a0), (1, .int xa1), (2, .ref pa2), (3, .int xa3)]) rfl ?_
  refine r_pick [1, 2, 3, 4, 0] (lo' := [(0, .ref a0), (1, .int xa1), (2, .ref pa2), (3, .int xa3), (4, .int (0 : Int32))]) rfl ?_
  refine l_X6_raiseRow_L3 hl hd (hk64 := ?_) fu _ _ h
  · intro s9 h
    cases h
    exact r_vreturn (dc_X6_raiseRow 37 rfl) rfl
theorem l_X6_learn_L120 {G : Gx} {d : Nat} (hl : G.1.stackTraces = false) (hd : 1 ≤ d) {pL0 : Nat} {pL1 : Nat} {r : Sto} {k141 : Sto → Option Sto}
    (hk141 : ∀ (sL : Sto), k141 sL = some r → J G d m_X6_learn 141 [] [] sL (.inl none) r)
  : ∀ (f : Nat) (xL3 : Int32) (sL : Sto), F_X6_learn_L120 pL0 pL1 f xL3 sL k141 = some r → J G d m_X6_learn 120 [(0, .ref pL0), (1, .ref pL1), (3, .int xL3)] [] sL (.inl none) r := by
  intro f
  induction f with
  | zero => intro xL3 sL h; rw [F_X6_learn_L120] at h; cases h
  | succ f ih =>
    intro xL3 sL h
    rw [F_X6_learn_L120] at h
    refine r_iload_n (dc_X6_learn 65 rfl) rfl rfl ?_
    refine r_iconst (dc_X6_learn 66 rfl) kiconst_5 ?_
    refine r_icmp_ge (dc_X6_learn 67 rfl) (tgt := 141) (by decide) (fun c0 => ?_) (fun c0 => ?_)
    · rw [if_pos c0] at h
      refine r_pick [] (lo' := []) rfl ?_
      exact hk141 _ h
    · rw [if_neg c0] at h
      refine r_aload_n (dc_X6_learn 68 rfl) rfl rfl ?_
      refine r_iload_n (dc_X6_learn 69 rfl) rfl rfl ?_
      refine r_aload_n (dc_X6_learn 70 rfl) rfl rfl ?_
      obtain ⟨p7, e0, h⟩ := Option.bind_eq_some_iff.mp h
      refine r_getR (dc_X6_learn 71 rfl) fl_RX6_129 e0 ?_
      refine r_iload_n (dc_X6_learn 72 rfl) rfl rfl ?_
      obtain ⟨s8, e0, h⟩ := Option.bind_eq_some_iff.mp h
      refine r_callV (dc_X6_learn 73 rfl) mv_X6_raiseRow ml_RX6_130 (As := [.int xL3, .ref p7, .int xL3]) (t_X6_raiseRow (d := d - 1) hl (by omega) e0) (by omega) rfl (Nat.le_of_ble_eq_true rfl) ?_
      refine r_iinc (dc_X6_learn 74 rfl) rfl (kinc_1 _) (by decide) (lo' := [(3, .int (xL3 + (1 : Int32))), (0, .ref pL0), (1, .ref pL1)]) rfl ?_
      refine r_goto (dc_X6_learn 75 rfl) (tgt := 120) (by decide) ?_
      refine r_pick [1, 2, 0] (lo' := [(0, .ref pL0), (1, .ref pL1), (3, .int (xL3 + (1 : Int32)))]) rfl ?_
      exact ih _ _ h
theorem l_X6_learn_L10 {G : Gx} {d : Nat} (hl : G.1.stackTraces = false) (hd : 1 ≤ d) {pL0 : Nat} {pL1 : Nat} {pL2 : Nat} {r : Sto} {k76 : Sto → Option Sto}
    (hk76 : ∀ (sL : Sto), k76 sL = some r → J G d m_X6_learn 76 [] [] sL (.inl none) r)
  : ∀ (f : Nat) (xL3 : Int32) (sL : Sto), F_X6_learn_L10 pL0 pL1 pL2 f xL3 sL k76 = some r → J G d m_X6_learn 10 [(0, .ref pL0), (1, .ref pL1), (2, .ref pL2), (3, .int xL3)] [] sL (.inl none) r := by
  intro f
  induction f with
  | zero => intro xL3 sL h; rw [F_X6_learn_L10] at h; cases h
  | succ f ih =>
    intro xL3 sL h
    rw [F_X6_learn_L10] at h
    refine r_iload_n (dc_X6_learn 6 rfl) rfl rfl ?_
    refine r_aload_n (dc_X6_learn 7 rfl) rfl rfl ?_
    obtain ⟨x14, e0, h⟩ := Option.bind_eq_some_iff.mp h
    refine r_getI (dc_X6_learn 8 rfl) fl_RX6_89 e0 ?_
    refine r_icmp_ge (dc_X6_learn 9 rfl) (tgt := 76) (by decide) (fun c0 => ?_) (fun c0 => ?_)
    · rw [if_pos c0] at h
      refine r_pick [] (lo' := []) rfl ?_
      exact hk76 _ h
    · rw [if_neg c0] at h
      refine r_aload_n (dc_X6_learn 10 rfl) rfl rfl ?_
      obtain ⟨p15, e0, h⟩ := Option.bind_eq_some_iff.mp h
      refine r_getR (dc_X6_learn 11 rfl) fl_RX6_97 e0 ?_
      refine r_iload_n (dc_X6_learn 12 rfl) rfl rfl ?_
      obtain ⟨x16, e0, h⟩ := Option.bind_eq_some_iff.mp h
      refine r_iald (dc_X6_learn 13 rfl) e0 ?_
      refine r_istore (dc_X6_learn 14 rfl) (by decide) (lo' := [(4, .int x16), (0, .ref pL0), (1, .ref pL1), (2, .ref pL2), (3, .int xL3)]) rfl ?_
      refine r_aload_n (dc_X6_learn 15 rfl) rfl rfl ?_
      refine r_aload_n (dc_X6_learn 16 rfl) rfl rfl ?_
      obtain ⟨x17, e0, h⟩ := Option.bind_eq_some_iff.mp h
      refine r_getI (dc_X6_learn 17 rfl) fl_RX6_94 e0 ?_
      refine r_aload_n (dc_X6_learn 18 rfl) rfl rfl ?_
      obtain ⟨p18, e0, h⟩ := Option.bind_eq_some_iff.mp h
      refine r_getR (dc_X6_learn 19 rfl) fl_RX6_55 e0 ?_
      refine r_iload (dc_X6_learn 20 rfl) rfl ?_
      obtain ⟨x19, e0, h⟩ := Option.bind_eq_some_iff.mp h
      refine r_iald (dc_X6_learn 21 rfl) e0 ?_
      refine r_aload_n (dc_X6_learn 22 rfl) rfl rfl ?_
      obtain ⟨p20, e0, h⟩ := Option.bind_eq_some_iff.mp h
      refine r_getR (dc_X6_learn 23 rfl) fl_RX6_60 e0 ?_
      refine r_iload (dc_X6_learn 24 rfl) rfl ?_
      obtain ⟨x21, e0, h⟩ := Option.bind_eq_some_iff.mp h
      refine r_iald (dc_X6_learn 25 rfl) e0 ?_
      obtain ⟨s22, e0, h⟩ := Option.bind_eq_some_iff.mp h
      refine r_callV (dc_X6_learn 26 rfl) mv_X6_raise ml_RX6_126 (As := [.int x17, .int x19, .int x21]) (t_X6_raise (d := d - 1) hl (by omega) e0) (by omega) rfl (Nat.le_of_ble_eq_true rfl) ?_
      refine r_aload_n (dc_X6_learn 27 rfl) rfl rfl ?_
      refine r_aload_n (dc_X6_learn 28 rfl) rfl rfl ?_
      obtain ⟨x23, e0, h⟩ := Option.bind_eq_some_iff.mp h
      refine r_getI (dc_X6_learn 29 rfl) fl_RX6_100 e0 ?_
      refine r_aload_n (dc_X6_learn 30 rfl) rfl rfl ?_
      obtain ⟨p24, e0, h⟩ := Option.bind_eq_some_iff.mp h
      refine r_getR (dc_X6_learn 31 rfl) fl_RX6_55 e0 ?_
      refine r_iload (dc_X6_learn 32 rfl) rfl ?_
      obtain ⟨x25, e0, h⟩ := Option.bind_eq_some_iff.mp h
      refine r_iald (dc_X6_learn 33 rfl) e0 ?_
      refine r_aload_n (dc_X6_learn 34 rfl) rfl rfl ?_
      obtain ⟨p26, e0, h⟩ := Option.bind_eq_some_iff.mp h
      refine r_getR (dc_X6_learn 35 rfl) fl_RX6_60 e0 ?_
      refine r_iload (dc_X6_learn 36 rfl) rfl ?_
      obtain ⟨x27, e0, h⟩ := Option.bind_eq_some_iff.mp h
      refine r_iald (dc_X6_learn 37 rfl) e0 ?_
      obtain ⟨s28, e0, h⟩ := Option.bind_eq_some_iff.mp h
      refine r_callV (dc_X6_learn 38 rfl) mv_X6_raise ml_RX6_126 (As := [.int x23, .int x25, .int x27]) (t_X6_raise (d := d - 1) hl (by omega) e0) (by omega) rfl (Nat.le_of_ble_eq_true rfl) ?_
      refine r_iinc (dc_X6_learn 39 rfl) rfl (kinc_1 _) (by decide) (lo' := [(3, .int (xL3 + (1 : Int32))), (4, .int x16), (0, .ref pL0), (1, .ref pL1), (2, .ref pL2)]) rfl ?_
      refine r_goto (dc_X6_learn 40 rfl) (tgt := 10) (by decide) ?_
      refine r_pick [2, 3, 4, 0] (lo' := [(0, .ref pL0), (1, .ref pL1), (2, .ref pL2), (3, .int (xL3 + (1 : Int32)))]) rfl ?_
      exact ih _ _ h
