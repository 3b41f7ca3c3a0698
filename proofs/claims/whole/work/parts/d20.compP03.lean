theorem l_X5_firstOverstated_L32 {G : Gx} {d : Nat} (hl : G.1.stackTraces = false) (hd : 2 ≤ d) {sL : Sto} {pL0 : Nat} {xL1 : Int32} {xL2 : Int32} {r : (Int32 × Sto)} {k74 : Option (Int32 × Sto)}
    (hk74 : k74  = some r → J G d m_X5_firstOverstated 74 [(0, .ref pL0), (1, .int xL1), (2, .int xL2)] [] sL (.inl (some (.int r.1))) r.2)
  : ∀ (f : Nat) (xL3 : Int32), F_X5_firstOverstated_L32 sL pL0 xL1 xL2 f xL3 k74 = some r → J G d m_X5_firstOverstated 32 [(0, .ref pL0), (1, .int xL1), (2, .int xL2), (3, .int xL3)] [] sL (.inl (some (.int r.1))) r.2 := by
  intro f
  induction f with
  | zero => intro xL3 h; rw [F_X5_firstOverstated_L32] at h; cases h
  | succ f ih =>
    intro xL3 h
    rw [F_X5_firstOverstated_L32] at h
    refine r_iload_n (dc_X5_firstOverstated 18 rfl) rfl rfl ?_
    refine r_aload_n (dc_X5_firstOverstated 19 rfl) rfl rfl ?_
    obtain ⟨p6, e0, h⟩ := Option.bind_eq_some_iff.mp h
    refine r_getR (dc_X5_firstOverstated 20 rfl) fl_RX5_40 e0 ?_
    obtain ⟨x7, e0, h⟩ := Option.bind_eq_some_iff.mp h
    refine r_getI (dc_X5_firstOverstated 21 rfl) fl_RX5_45 e0 ?_
    refine r_icmp_ge (dc_X5_firstOverstated 22 rfl) (tgt := 74) (by decide) (fun c0 => ?_) (fun c0 => ?_)
    · rw [if_pos c0] at h
      refine r_pick [0, 1, 2] (lo' := [(0, .ref pL0), (1, .int xL1), (2, .int xL2)]) rfl ?_
      exact hk74  h
    · rw [if_neg c0] at h
      refine r_aload_n (dc_X5_firstOverstated 23 rfl) rfl rfl ?_
      refine r_iload_n (dc_X5_firstOverstated 24 rfl) rfl rfl ?_
      refine r_iload_n (dc_X5_firstOverstated 25 rfl) rfl rfl ?_
      refine r_iload_n (dc_X5_firstOverstated 26 rfl) rfl rfl ?_
      obtain ⟨x8, e0, h⟩ := Option.bind_eq_some_iff.mp h
      refine r_callSN (dc_X5_firstOverstated 27 rfl) ms_X9_cell mn_RX5_62 (As := [.int xL2, .int xL3]) (t_X9_cell (d := d - 1) hl (by omega) e0) (by omega) rfl (Nat.le_of_ble_eq_true rfl) ?_
      obtain ⟨x9, e0, h⟩ := Option.bind_eq_some_iff.mp h
      refine r_callV (dc_X5_firstOverstated 28 rfl) mv_X5_isOverstated ml_RX5_89 (As := [.int xL1, .int x8]) (t_X5_isOverstated (d := d - 1) hl (by omega) e0) (by omega) rfl (Nat.le_of_ble_eq_true rfl) ?_
      refine r_if_eq (dc_X5_firstOverstated 29 rfl) (tgt := 68) (by decide) (fun c0 => ?_) (fun c0 => ?_)
      · rw [if_pos c0] at h
        refine r_iinc (dc_X5_firstOverstated 40 rfl) rfl (kinc_1 _) (by decide) (lo' := [(3, .int (xL3 + (1 : Int32))), (0, .ref pL0), (1, .int xL1), (2, .int xL2)]) rfl ?_
        refine r_goto (dc_X5_firstOverstated 41 rfl) (tgt := 32) (by decide) ?_
        refine r_pick [1, 2, 3, 0] (lo' := [(0, .ref pL0), (1, .int xL1), (2, .int xL2), (3, .int (xL3 + (1 : Int32)))]) rfl ?_
        exact ih _ h
      · rw [if_neg c0] at h
        refine r_bipush (dc_X5_firstOverstated 30 rfl) kbipush_100 ?_
        refine r_iload_n (dc_X5_firstOverstated 31 rfl) rfl rfl ?_
        refine r_imul (dc_X5_firstOverstated 32 rfl) ?_
        refine r_bipush (dc_X5_firstOverstated 33 rfl) kbipush_10 ?_
        refine r_iload_n (dc_X5_firstOverstated 34 rfl) rfl rfl ?_
        refine r_imul (dc_X5_firstOverstated 35 rfl) ?_
        refine r_iadd (dc_X5_firstOverstated 36 rfl) ?_
        refine r_iload_n (dc_X5_firstOverstated 37 rfl) rfl rfl ?_
        refine r_iadd (dc_X5_firstOverstated 38 rfl) ?_
        cases h
        exact r_ireturn (dc_X5_firstOverstated 39 rfl) rfl
theorem l_X5_firstOverstated_L19 {G : Gx} {d : Nat} (hl : G.1.stackTraces = false) (hd : 2 ≤ d) {sL : Sto} {pL0 : Nat} {xL1 : Int32} {r : (Int32 × Sto)} {k80 : Option (Int32 × Sto)}
    (hk80 : k80  = some r → J G d m_X5_firstOverstated 80 [(0, .ref pL0), (1, .int xL1)] [] sL (.inl (some (.int r.1))) r.2)
  : ∀ (f : Nat) (xL2 : Int32), F_X5_firstOverstated_L19 sL pL0 xL1 f xL2 k80 = some r → J G d m_X5_firstOverstated 19 [(0, .ref pL0), (1, .int xL1), (2, .int xL2)] [] sL (.inl (some (.int r.1))) r.2 := by
  intro f
  induction f with
  | zero => intro xL2 h; rw [F_X5_firstOverstated_L19] at h; cases h
  | succ f ih =>
    intro xL2 h
    rw [F_X5_firstOverstated_L19] at h
    refine r_iload_n (dc_X5_firstOverstated 11 rfl) rfl rfl ?_
    refine r_aload_n (dc_X5_firstOverstated 12 rfl) rfl rfl ?_
    obtain ⟨p4, e0, h⟩ := Option.bind_eq_some_iff.mp h
    refine r_getR (dc_X5_firstOverstated 13 rfl) fl_RX5_40 e0 ?_
    obtain ⟨x5, e0, h⟩ := Option.bind_eq_some_iff.mp h
    refine r_getI (dc_X5_firstOverstated 14 rfl) fl_RX5_45 e0 ?_
    refine r_icmp_ge (dc_X5_firstOverstated 15 rfl) (tgt := 80) (by decide) (fun c0 => ?_) (fun c0 => ?_)
    · rw [if_pos c0] at h
      refine r_pick [0, 1] (lo' := [(0, .ref pL0), (1, .int xL1)]) rfl ?_
      exact hk80  h
    · rw [if_neg c0] at h
      refine r_iconst (dc_X5_firstOverstated 16 rfl) kiconst_0 ?_
      refine r_istore_n (dc_X5_firstOverstated 17 rfl) rfl (by decide) (lo' := [(3, .int (0 : Int32)), (0, .ref pL0), (1, .int xL1), (2, .int xL2)]) rfl ?_
      refine r_pick [1, 2, 3, 0] (lo' := [(0, .ref pL0), (1, .int xL1), (2, .int xL2), (3, .int (0 : Int32))]) rfl ?_
      refine l_X5_firstOverstated_L32 hl hd (hk74 := ?_) fu _ h
      · intro h
        refine r_iinc (dc_X5_firstOverstated 42 rfl) rfl (kinc_1 _) (by decide) (lo' := [(2, .int (xL2 + (1 : Int32))), (0, .ref pL0), (1, .int xL1)]) rfl ?_
        refine r_goto (dc_X5_firstOverstated 43 rfl) (tgt := 19) (by decide) ?_
        refine r_pick [1, 2, 0] (lo' := [(0, .ref pL0), (1, .int xL1), (2, .int (xL2 + (1 : Int32)))]) rfl ?_
        exact ih _ h
theorem l_X5_firstOverstated_L6 {G : Gx} {d : Nat} (hl : G.1.stackTraces = false) (hd : 2 ≤ d) {sL : Sto} {pL0 : Nat} {r : (Int32 × Sto)} {k86 : Option (Int32 × Sto)}
    (hk86 : k86  = some r → J G d m_X5_firstOverstated 86 [] [] sL (.inl (some (.int r.1))) r.2)
  : ∀ (f : Nat) (xL1 : Int32), F_X5_firstOverstated_L6 sL pL0 f xL1 k86 = some r → J G d m_X5_firstOverstated 6 [(0, .ref pL0), (1, .int xL1)] [] sL (.inl (some (.int r.1))) r.2 := by
  intro f
  induction f with
  | zero => intro xL1 h; rw [F_X5_firstOverstated_L6] at h; cases h
  | succ f ih =>
    intro xL1 h
    rw [F_X5_firstOverstated_L6] at h
    refine r_iload_n (dc_X5_firstOverstated 4 rfl) rfl rfl ?_
    refine r_aload_n (dc_X5_firstOverstated 5 rfl) rfl rfl ?_
    obtain ⟨p2, e0, h⟩ := Option.bind_eq_some_iff.mp h
    refine r_getR (dc_X5_firstOverstated 6 rfl) fl_RX5_40 e0 ?_
    obtain ⟨x3, e0, h⟩ := Option.bind_eq_some_iff.mp h
    refine r_getI (dc_X5_firstOverstated 7 rfl) fl_RX5_45 e0 ?_
    refine r_icmp_ge (dc_X5_firstOverstated 8 rfl) (tgt := 86) (by decide) (fun c0 => ?_) (fun c0 => ?_)
    · rw [if_pos c0] at h
      refine r_pick [] (lo' := []) rfl ?_
      exact hk86  h
    · rw [if_neg c0] at h
      refine r_iconst (dc_X5_firstOverstated 9 rfl) kiconst_0 ?_
      refine r_istore_n (dc_X5_firstOverstated 10 rfl) rfl (by decide) (lo' := [(2, .int (0 : Int32)), (0, .ref pL0), (1, .int xL1)]) rfl ?_
      refine r_pick [1, 2, 0] (lo' := [(0, .ref pL0), (1, .int xL1), (2, .int (0 : Int32))]) rfl ?_
      refine l_X5_firstOverstated_L19 hl hd (hk80 := ?_) fu _ h
      · intro h
        refine r_iinc (dc_X5_firstOverstated 44 rfl) rfl (kinc_1 _) (by decide) (lo' := [(1, .int (xL1 + (1 : Int32))), (0, .ref pL0)]) rfl ?_
        refine r_goto (dc_X5_firstOverstated 45 rfl) (tgt := 6) (by decide) ?_
        refine r_pick [1, 0] (lo' := [(0, .ref pL0), (1, .int (xL1 + (1 : Int32)))]) rfl ?_
        exact ih _ h
theorem t_X5_firstOverstated {G : Gx} {d : Nat} (hl : G.1.stackTraces = false) (hd : 2 ≤ d) {σ : Sto} {a0 : Nat} {r : (Int32 × Sto)} (h : F_X5_firstOverstated σ a0 = some r) : Mi G d m_X5_firstOverstated 5 a0 [] σ (.inl (some (.int r.1))) r.2 := by
  rw [F_X5_firstOverstated] at h
  obtain ⟨hg, h⟩ := chk_some h
  refine ⟨J.toMt (lo := [(0, .ref a0)]) pn_RX5 rfl hl (Nat.le_of_ble_eq_true rfl) rfl ?_, hg⟩
  refine r_aload_n (dc_X5_firstOverstated 0 rfl) rfl rfl ?_
  obtain ⟨s1, e0, h⟩ := Option.bind_eq_some_iff.mp h
  refine r_callV (dc_X5_firstOverstated 1 rfl) mv_X5_findMissing ml_RX5_82 (As := []) (t_X5_findMissing (d := d - 1) hl (by omega) e0) (by omega) rfl (Nat.le_of_ble_eq_true rfl) ?_
  refine r_iconst (dc_X5_firstOverstated 2 rfl) kiconst_0 ?_
  refine r_istore_n (dc_X5_firstOverstated 3 rfl) rfl (by decide) (lo' := [(1, .int (0 : Int32)), (0, .ref a0)]) rfl ?_
  refine r_pick [1, 0] (lo' := [(0, .ref a0), (1, .int (0 : Int32))]) rfl ?_
  refine l_X5_firstOverstated_L6 hl hd (hk86 := ?_) fu _ h
  · intro h
    refine r_iconst (dc_X5_firstOverstated 46 rfl) kiconst_m1 ?_
    cases h
    exact r_ireturn (dc_X5_firstOverstated 47 rfl) rfl
theorem l_X5_findStillToBeTold_L13 {G : Gx} {d : Nat} (hl : G.1.stackTraces = false) (hd : 1 ≤ d) {pL0 : Nat} {xL2 : Int32} {pL3 : Nat} {r : Sto} {k64 : Sto → Option Sto}
    (hk64 : ∀ (sL : Sto), k64 sL = some r → J G d m_X5_findStillToBeTold 64 [] [] sL (.inl none) r)
  : ∀ (f : Nat) (xL4 : Int32) (sL : Sto), F_X5_findStillToBeTold_L13 pL0 xL2 pL3 f xL4 sL k64 = some r → J G d m_X5_findStillToBeTold 13 [(0, .ref pL0), (2, .int xL2), (3, .ref pL3), (4, .int xL4)] [] sL (.inl none) r := by
  intro f
  induction f with
  | zero => intro xL4 sL h; rw [F_X5_findStillToBeTold_L13] at h; cases h
  | succ f ih =>
    intro xL4 sL h
    rw [F_X5_findStillToBeTold_L13] at h
    refine r_iload (dc_X5_findStillToBeTold 8 rfl) rfl ?_
    refine r_aload_n (dc_X5_findStillToBeTold 9 rfl) rfl rfl ?_
    obtain ⟨x4, e0, h⟩ := Option.bind_eq_some_iff.mp h
    refine r_getI (dc_X5_findStillToBeTold 10 rfl) fl_RX5_110 e0 ?_
    refine r_icmp_ge (dc_X5_findStillToBeTold 11 rfl) (tgt := 64) (by decide) (fun c0 => ?_) (fun c0 => ?_)
    · rw [if_pos c0] at h
      refine r_pick [] (lo' := []) rfl ?_
      exact hk64 _ h
    · rw [if_neg c0] at h
      refine r_aload_n (dc_X5_findStillToBeTold 12 rfl) rfl rfl ?_
      refine r_aload_n (dc_X5_findStillToBeTold 13 rfl) rfl rfl ?_
      obtain ⟨p5, e0, h⟩ := Option.bind_eq_some_iff.mp h
      refine r_getR (dc_X5_findStillToBeTold 14 rfl) fl_RX5_40 e0 ?_
      obtain ⟨p6, e0, h⟩ := Option.bind_eq_some_iff.mp h
      refine r_getR (dc_X5_findStillToBeTold 15 rfl) fl_RX5_50 e0 ?_
      refine r_iload_n (dc_X5_findStillToBeTold 16 rfl) rfl rfl ?_
      refine r_aload_n (dc_X5_findStillToBeTold 17 rfl) rfl rfl ?_
      obtain ⟨p7, e0, h⟩ := Option.bind_eq_some_iff.mp h
      refine r_getR (dc_X5_findStillToBeTold 18 rfl) fl_RX5_113 e0 ?_
      refine r_iload (dc_X5_findStillToBeTold 19 rfl) rfl ?_
      obtain ⟨x8, e0, h⟩ := Option.bind_eq_some_iff.mp h
      refine r_iald (dc_X5_findStillToBeTold 20 rfl) e0 ?_
      obtain ⟨x9, e0, h⟩ := Option.bind_eq_some_iff.mp h
      refine r_callV (dc_X5_findStillToBeTold 21 rfl) mv_X6_isKnown ml_RX5_116 (As := [.ref p6, .int xL2, .int x8]) (t_X6_isKnown (d := d - 1) hl (by omega) e0) (by omega) rfl (Nat.le_of_ble_eq_true rfl) ?_
      refine r_if_ne (dc_X5_findStillToBeTold 22 rfl) (tgt := 58) (by decide) (fun c0 => ?_) (fun c0 => ?_)
      · rw [if_neg c0] at h
        refine r_iinc (dc_X5_findStillToBeTold 30 rfl) rfl (kinc_1 _) (by decide) (lo' := [(4, .int (xL4 + (1 : Int32))), (0, .ref pL0), (2, .int xL2), (3, .ref pL3)]) rfl ?_
        refine r_goto (dc_X5_findStillToBeTold 31 rfl) (tgt := 13) (by decide) ?_
        refine r_pick [1, 2, 3, 0] (lo' := [(0, .ref pL0), (2, .int xL2), (3, .ref pL3), (4, .int (xL4 + (1 : Int32)))]) rfl ?_
        exact ih _ _ h
      · rw [if_pos c0] at h
        refine r_aload_n (dc_X5_findStillToBeTold 23 rfl) rfl rfl ?_
        obtain ⟨p10, e0, h⟩ := Option.bind_eq_some_iff.mp h
        refine r_getR (dc_X5_findStillToBeTold 24 rfl) fl_RX5_29 e0 ?_
        refine r_aload_n (dc_X5_findStillToBeTold 25 rfl) rfl rfl ?_
        obtain ⟨p11, e0, h⟩ := Option.bind_eq_some_iff.mp h
        refine r_getR (dc_X5_findStillToBeTold 26 rfl) fl_RX5_113 e0 ?_
        refine r_iload (dc_X5_findStillToBeTold 27 rfl) rfl ?_
        obtain ⟨x12, e0, h⟩ := Option.bind_eq_some_iff.mp h
        refine r_iald (dc_X5_findStillToBeTold 28 rfl) e0 ?_
        obtain ⟨s13, e0, h⟩ := Option.bind_eq_some_iff.mp h
        refine r_callV (dc_X5_findStillToBeTold 29 rfl) mv_X1_insert ml_RX5_120 (As := [.int x12]) (t_X1_insert (d := d - 1) hl (by omega) e0) (by omega) rfl (Nat.le_of_ble_eq_true rfl) ?_
        refine r_iinc (dc_X5_findStillToBeTold 30 rfl) rfl (kinc_1 _) (by decide) (lo' := [(4, .int (xL4 + (1 : Int32))), (0, .ref pL0), (2, .int xL2), (3, .ref pL3)]) rfl ?_
        refine r_goto (dc_X5_findStillToBeTold 31 rfl) (tgt := 13) (by decide) ?_
        refine r_pick [1, 2, 3, 0] (lo' := [(0, .ref pL0), (2, .int xL2), (3, .ref pL3), (4, .int (xL4 + (1 : Int32)))]) rfl ?_
        exact ih _ _ h
theorem t_X5_findStillToBeTold {G : Gx} {d : Nat} (hl : G.1.stackTraces = false) (hd : 1 ≤ d) {σ : Sto} {a0 : Nat} {xa1 : Int32} {xa2 : Int32} {r : Sto} (h : F_X5_findStillToBeTold σ a0 xa1 xa2 = some r) : Mi G d m_X5_findStillToBeTold 5 a0 [.int xa1, .int xa2] σ (.inl none) r := by
  rw [F_X5_findStillToBeTold] at h
  obtain ⟨hg, h⟩ := chk_some h
  refine ⟨J.toMt (lo := [(0, .ref a0), (1, .int xa1), (2, .int xa2)]) pn_RX5 rfl hl (Nat.le_of_ble_eq_true rfl) rfl ?_, hg⟩
  refine r_aload_n (dc_X5_findStillToBeTold 0 rfl) rfl rfl ?_
  obtain ⟨p1, e0, h⟩ := Option.bind_eq_some_iff.mp h
  refine r_getR (dc_X5_findStillToBeTold 1 rfl) fl_RX5_40 e0 ?_
  obtain ⟨p2, e0, h⟩ := Option.bind_eq_some_iff.mp h
  refine r_getR (dc_X5_findStillToBeTold 2 rfl) fl_RX5_66 e0 ?_
  refine r_iload_n (dc_X5_findStillToBeTold 3 rfl) rfl rfl ?_
  obtain ⟨p3, e0, h⟩ := Option.bind_eq_some_iff.mp h
  refine r_aaldR (dc_X5_findStillToBeTold 4 rfl) (kd := 4) rfl e0 ?_
  refine r_astore_n (dc_X5_findStillToBeTold 5 rfl) rfl (by decide) (lo' := [(3, .ref p3), (0, .ref a0), (1, .int xa1), (2, .int xa2)]) rfl ?_
  refine r_iconst (dc_X5_findStillToBeTold 6 rfl) kiconst_0 ?_
  refine r_istore (dc_X5_findStillToBeTold 7 rfl) (by decide) (lo' := [(4, .int (0 : Int32)), (3, .ref p3), (0, .ref a0), (1, .int xa1), (2, .int xa2)]) rfl ?_
  refine r_pick [2, 4, 1, 0] (lo' := [(0, .ref a0), (2, .int xa2), (3, .ref p3), (4, .int (0 : Int32))]) rfl ?_
  refine l_X5_findStillToBeTold_L13 hl hd (hk64 := ?_) fu _ _ h
  · intro s14 h
    cases h
    exact r_vreturn (dc_X5_findStillToBeTold 32 rfl) rfl
theorem t_X8_row {G : Gx} {d : Nat} (hl : G.1.stackTraces = false) (hd : 1 ≤ d) {σ : Sto} {a0 : Nat} {xa1 : Int32} {xa2 : Int32} {r : Nat} (h : F_X8_row σ a0 xa1 xa2 = some r) : Mi G d m_X8_row 8 a0 [.int xa1, .int xa2] σ (.inl (some (.ref r))) σ := by
  rw [F_X8_row] at h
  obtain ⟨hg, h⟩ := chk_some h
  refine ⟨J.toMt (lo := [(0, .ref a0), (1, .int xa1), (2, .int xa2)]) pn_RX8 rfl hl (Nat.le_of_ble_eq_true rfl) rfl ?_, hg⟩
  refine r_aload_n (dc_X8_row 0 rfl) rfl rfl ?_
  obtain ⟨p1, e0, h⟩ := Option.bind_eq_some_iff.mp h
  refine r_getR (dc_X8_row 1 rfl) fl_RX8_33 e0 ?_
  refine r_iload_n (dc_X8_row 2 rfl) rfl rfl ?_
  refine r_iload_n (dc_X8_row 3 rfl) rfl rfl ?_
  obtain ⟨x2, e0, h⟩ := Option.bind_eq_some_iff.mp h
  refine r_callSN (dc_X8_row 4 rfl) ms_X9_cell mn_RX8_75 (As := [.int xa1, .int xa2]) (t_X9_cell (d := d - 1) hl (by omega) e0) (by omega) rfl (Nat.le_of_ble_eq_true rfl) ?_
  obtain ⟨p3, e0, h⟩ := Option.bind_eq_some_iff.mp h
  refine r_aaldR (dc_X8_row 5 rfl) (kd := 5) rfl e0 ?_
  cases h
  exact r_areturn (dc_X8_row 6 rfl) rfl
theorem l_X5_findOnTheWay_L33 {G : Gx} {d : Nat} (hl : G.1.stackTraces = false) (hd : 3 ≤ d) {pL0 : Nat} {xL1 : Int32} {xL2 : Int32} {pL3 : Nat} {r : Sto} {k64 : Sto → Option Sto}
    (hk64 : ∀ (sL : Sto), k64 sL = some r → J G d m_X5_findOnTheWay 64 [(0, .ref pL0), (1, .int xL1), (2, .int xL2)] [] sL (.inl none) r)
  : ∀ (f : Nat) (xL4 : Int32) (sL : Sto), F_X5_findOnTheWay_L33 pL0 pL3 f xL4 sL k64 = some r → J G d m_X5_findOnTheWay 33 [(0, .ref pL0), (1, .int xL1), (2, .int xL2), (3, .ref pL3), (4, .int xL4)] [] sL (.inl none) r := by
  intro f
  induction f with
  | zero => intro xL4 sL h; rw [F_X5_findOnTheWay_L33] at h; cases h
  | succ f ih =>
    intro xL4 sL h
    rw [F_X5_findOnTheWay_L33] at h
    refine r_iload (dc_X5_findOnTheWay 18 rfl) rfl ?_
    refine r_aload_n (dc_X5_findOnTheWay 19 rfl) rfl rfl ?_
    obtain ⟨x7, e0, h⟩ := Option.bind_eq_some_iff.mp h
    refine r_getI (dc_X5_findOnTheWay 20 rfl) fl_RX5_127 e0 ?_
    refine r_icmp_ge (dc_X5_findOnTheWay 21 rfl) (tgt := 64) (by decide) (fun c0 => ?_) (fun c0 => ?_)
    · rw [if_pos c0] at h
      refine r_pick [0, 1, 2] (lo' := [(0, .ref pL0), (1, .int xL1), (2, .int xL2)]) rfl ?_
      exact hk64 _ h
    · rw [if_neg c0] at h
      refine r_aload_n (dc_X5_findOnTheWay 22 rfl) rfl rfl ?_
      obtain ⟨p8, e0, h⟩ := Option.bind_eq_some_iff.mp h
      refine r_getR (dc_X5_findOnTheWay 23 rfl) fl_RX5_33 e0 ?_
      refine r_aload_n (dc_X5_findOnTheWay 24 rfl) rfl rfl ?_
      refine r_iload (dc_X5_findOnTheWay 25 rfl) rfl ?_
      obtain ⟨p10, s9, e0, h⟩ := wb_some h
      refine r_callV (dc_X5_findOnTheWay 26 rfl) mv_X4_at ml_RX5_130 (As := [.int xL4]) (t_X4_at (d := d - 1) hl (by omega) e0) (by omega) rfl (Nat.le_of_ble_eq_true rfl) ?_
      obtain ⟨p11, e0, h⟩ := Option.bind_eq_some_iff.mp h
      refine r_getR (dc_X5_findOnTheWay 27 rfl) fl_RX5_134 e0 ?_
      obtain ⟨s12, e0, h⟩ := Option.bind_eq_some_iff.mp h
      refine r_callV (dc_X5_findOnTheWay 28 rfl) mv_X1_insertAll ml_RX5_104 (As := [.ref p11]) (t_X1_insertAll (d := d - 1) hl (by omega) e0) (by omega) rfl (Nat.le_of_ble_eq_true rfl) ?_
      refine r_iinc (dc_X5_findOnTheWay 29 rfl) rfl (kinc_1 _) (by decide) (lo' := [(4, .int (xL4 + (1 : Int32))), (0, .ref pL0), (1, .int xL1), (2, .int xL2), (3, .ref pL3)]) rfl ?_
      refine r_goto (dc_X5_findOnTheWay 30 rfl) (tgt := 33) (by decide) ?_
      refine r_pick [1, 2, 3, 4, 0] (lo' := [(0, .ref pL0), (1, .int xL1), (2, .int xL2), (3, .ref pL3), (4, .int (xL4 + (1 : Int32)))]) rfl ?_
      exact ih _ _ h
theorem l_X5_findOnTheWay_L9 {G : Gx} {d : Nat} (hl : G.1.stackTraces = false) (hd : 3 ≤ d) {pL0 : Nat} {xL1 : Int32} {r : Sto} {k70 : Sto → Option Sto}
    (hk70 : ∀ (sL : Sto), k70 sL = some r → J G d m_X5_findOnTheWay 70 [(0, .ref pL0), (1, .int xL1)] [] sL (.inl none) r)
  : ∀ (f : Nat) (xL2 : Int32) (sL : Sto), F_X5_findOnTheWay_L9 pL0 xL1 f xL2 sL k70 = some r → J G d m_X5_findOnTheWay 9 [(0, .ref pL0), (1, .int xL1), (2, .int xL2)] [] sL (.inl none) r := by
  intro f
  induction f with
  | zero => intro xL2 sL h; rw [F_X5_findOnTheWay_L9] at h; cases h
  | succ f ih =>
    intro xL2 sL h
    rw [F_X5_findOnTheWay_L9] at h
    refine r_iload_n (dc_X5_findOnTheWay 5 rfl) rfl rfl ?_
    refine r_aload_n (dc_X5_findOnTheWay 6 rfl) rfl rfl ?_
    obtain ⟨p3, e0, h⟩ := Option.bind_eq_some_iff.mp h
    refine r_getR (dc_X5_findOnTheWay 7 rfl) fl_RX5_40 e0 ?_
    obtain ⟨x4, e0, h⟩ := Option.bind_eq_some_iff.mp h
    refine r_getI (dc_X5_findOnTheWay 8 rfl) fl_RX5_45 e0 ?_
    refine r_icmp_ge (dc_X5_findOnTheWay 9 rfl) (tgt := 70) (by decide) (fun c0 => ?_) (fun c0 => ?_)
    · rw [if_pos c0] at h
      refine r_pick [0, 1] (lo' := [(0, .ref pL0), (1, .int xL1)]) rfl ?_
      exact hk70 _ h
    · rw [if_neg c0] at h
      refine r_aload_n (dc_X5_findOnTheWay 10 rfl) rfl rfl ?_
      obtain ⟨p5, e0, h⟩ := Option.bind_eq_some_iff.mp h
      refine r_getR (dc_X5_findOnTheWay 11 rfl) fl_RX5_40 e0 ?_
      refine r_iload_n (dc_X5_findOnTheWay 12 rfl) rfl rfl ?_
      refine r_iload_n (dc_X5_findOnTheWay 13 rfl) rfl rfl ?_
      obtain ⟨p6, e0, h⟩ := Option.bind_eq_some_iff.mp h
      refine r_callV (dc_X5_findOnTheWay 14 rfl) mv_X8_row ml_RX5_123 (As := [.int xL2, .int xL1]) (t_X8_row (d := d - 1) hl (by omega) e0) (by omega) rfl (Nat.le_of_ble_eq_true rfl) ?_
      refine r_astore_n (dc_X5_findOnTheWay 15 rfl) rfl (by decide) (lo' := [(3, .ref p6), (0, .ref pL0), (1, .int xL1), (2, .int xL2)]) rfl ?_
      refine r_iconst (dc_X5_findOnTheWay 16 rfl) kiconst_0 ?_
      refine r_istore (dc_X5_findOnTheWay 17 rfl) (by decide) (lo' := [(4, .int (0 : Int32)), (3, .ref p6), (0, .ref pL0), (1, .int xL1), (2, .int xL2)]) rfl ?_
      refine r_pick [2, 3, 4, 1, 0] (lo' := [(0, .ref pL0), (1, .int xL1), (2, .int xL2), (3, .ref p6), (4, .int (0 : Int32))]) rfl ?_
      refine l_X5_findOnTheWay_L33 hl hd (hk64 := ?_) fu _ _ h
      · intro s13 h
        refine r_iinc (dc_X5_findOnTheWay 31 rfl) rfl (kinc_1 _) (by decide) (lo' := [(2, .int (xL2 + (1 : Int32))), (0, .ref pL0), (1, .int xL1)]) rfl ?_
        refine r_goto (dc_X5_findOnTheWay 32 rfl) (tgt := 9) (by decide) ?_
        refine r_pick [1, 2, 0] (lo' := [(0, .ref pL0), (1, .int xL1), (2, .int (xL2 + (1 : Int32)))]) rfl ?_
        exact ih _ _ h
theorem l_X5_findOnTheWay_L72 {G : Gx} {d : Nat} (hl : G.1.stackTraces = false) (hd : 3 ≤ d) {pL0 : Nat} {xL1 : Int32} {r : Sto} {k135 : Sto → Option Sto}
    (hk135 : ∀ (sL : Sto), k135 sL = some r → J G d m_X5_findOnTheWay 135 [] [] sL (.inl none) r)
  : ∀ (f : Nat) (xL2 : Int32) (sL : Sto), F_X5_findOnTheWay_L72 pL0 xL1 f xL2 sL k135 = some r → J G d m_X5_findOnTheWay 72 [(0, .ref pL0), (1, .int xL1), (2, .int xL2)] [] sL (.inl none) r := by
  intro f
  induction f with
  | zero => intro xL2 sL h; rw [F_X5_findOnTheWay_L72] at h; cases h
  | succ f ih =>
    intro xL2 sL h
    rw [F_X5_findOnTheWay_L72] at h
    refine r_iload_n (dc_X5_findOnTheWay 35 rfl) rfl rfl ?_
    refine r_aload_n (dc_X5_findOnTheWay 36 rfl) rfl rfl ?_
    obtain ⟨p15, e0, h⟩ := Option.bind_eq_some_iff.mp h
    refine r_getR (dc_X5_findOnTheWay 37 rfl) fl_RX5_40 e0 ?_
    obtain ⟨p16, e0, h⟩ := Option.bind_eq_some_iff.mp h
    refine r_getR (dc_X5_findOnTheWay 38 rfl) fl_RX5_50 e0 ?_
    obtain ⟨x17, e0, h⟩ := Option.bind_eq_some_iff.mp h
    refine r_getI (dc_X5_findOnTheWay 39 rfl) fl_RX5_54 e0 ?_
    refine r_icmp_ge (dc_X5_findOnTheWay 40 rfl) (tgt := 135) (by decide) (fun c0 => ?_) (fun c0 => ?_)
    · rw [if_pos c0] at h
      refine r_pick [] (lo' := []) rfl ?_
      exact hk135 _ h
    · rw [if_neg c0] at h
      refine r_aload_n (dc_X5_findOnTheWay 41 rfl) rfl rfl ?_
      obtain ⟨p18, e0, h⟩ := Option.bind_eq_some_iff.mp h
      refine r_getR (dc_X5_findOnTheWay 42 rfl) fl_RX5_33 e0 ?_
      refine r_iload_n (dc_X5_findOnTheWay 43 rfl) rfl rfl ?_
      obtain ⟨x19, e0, h⟩ := Option.bind_eq_some_iff.mp h
      refine r_callV (dc_X5_findOnTheWay 44 rfl) mv_X1_holds ml_RX5_72 (As := [.int xL2]) (t_X1_holds (d := d - 1) hl (by omega) e0) (by omega) rfl (Nat.le_of_ble_eq_true rfl) ?_
      refine r_if_eq (dc_X5_findOnTheWay 45 rfl) (tgt := 129) (by decide) (fun c0 => ?_) (fun c0 => ?_)
      · rw [if_pos c0] at h
        refine r_iinc (dc_X5_findOnTheWay 62 rfl) rfl (kinc_1 _) (by decide) (lo' := [(2, .int (xL2 + (1 : Int32))), (0, .ref pL0), (1, .int xL1)]) rfl ?_
        refine r_goto (dc_X5_findOnTheWay 63 rfl) (tgt := 72) (by decide) ?_
        refine r_pick [1, 2, 0] (lo' := [(0, .ref pL0), (1, .int xL1), (2, .int (xL2 + (1 : Int32)))]) rfl ?_
        exact ih _ _ h
      · rw [if_neg c0] at h
        refine r_aload_n (dc_X5_findOnTheWay 46 rfl) rfl rfl ?_
        obtain ⟨p20, e0, h⟩ := Option.bind_eq_some_iff.mp h
        refine r_getR (dc_X5_findOnTheWay 47 rfl) fl_RX5_40 e0 ?_
        obtain ⟨p21, e0, h⟩ := Option.bind_eq_some_iff.mp h
        refine r_getR (dc_X5_findOnTheWay 48 rfl) fl_RX5_66 e0 ?_
        refine r_iload_n (dc_X5_findOnTheWay 49 rfl) rfl rfl ?_
        obtain ⟨p22, e0, h⟩ := Option.bind_eq_some_iff.mp h
        refine r_aaldR (dc_X5_findOnTheWay 50 rfl) (kd := 4) rfl e0 ?_
        refine r_aload_n (dc_X5_findOnTheWay 51 rfl) rfl rfl ?_
        obtain ⟨p23, e0, h⟩ := Option.bind_eq_some_iff.mp h
        refine r_getR (dc_X5_findOnTheWay 52 rfl) fl_RX5_40 e0 ?_
        obtain ⟨p24, e0, h⟩ := Option.bind_eq_some_iff.mp h
        refine r_getR (dc_X5_findOnTheWay 53 rfl) fl_RX5_50 e0 ?_
        refine r_iload_n (dc_X5_findOnTheWay 54 rfl) rfl rfl ?_
        refine r_iload_n (dc_X5_findOnTheWay 55 rfl) rfl rfl ?_
        obtain ⟨x25, e0, h⟩ := Option.bind_eq_some_iff.mp h
        refine r_callV (dc_X5_findOnTheWay 56 rfl) mv_X6_isKnown ml_RX5_116 (As := [.ref p24, .int xL1, .int xL2]) (t_X6_isKnown (d := d - 1) hl (by omega) e0) (by omega) rfl (Nat.le_of_ble_eq_true rfl) ?_
        refine r_if_ne (dc_X5_findOnTheWay 57 rfl) (tgt := 129) (by decide) (fun c0 => ?_) (fun c0 => ?_)
        · rw [if_neg c0] at h
          refine r_iinc (dc_X5_findOnTheWay 62 rfl) rfl (kinc_1 _) (by decide) (lo' := [(2, .int (xL2 + (1 : Int32))), (0, .ref pL0), (1, .int xL1)]) rfl ?_
          refine r_goto (dc_X5_findOnTheWay 63 rfl) (tgt := 72) (by decide) ?_
          refine r_pick [1, 2, 0] (lo' := [(0, .ref pL0), (1, .int xL1), (2, .int (xL2 + (1 : Int32)))]) rfl ?_
          exact ih _ _ h
        · rw [if_pos c0] at h
          refine r_aload_n (dc_X5_findOnTheWay 58 rfl) rfl rfl ?_
          obtain ⟨p26, e0, h⟩ := Option.bind_eq_some_iff.mp h
          refine r_getR (dc_X5_findOnTheWay 59 rfl) fl_RX5_29 e0 ?_
          refine r_iload_n (dc_X5_findOnTheWay 60 rfl) rfl rfl ?_
          obtain ⟨s27, e0, h⟩ := Option.bind_eq_some_iff.mp h
          refine r_callV (dc_X5_findOnTheWay 61 rfl) mv_X1_insert ml_RX5_120 (As := [.int xL2]) (t_X1_insert (d := d - 1) hl (by omega) e0) (by omega) rfl (Nat.le_of_ble_eq_true rfl) ?_
          refine r_iinc (dc_X5_findOnTheWay 62 rfl) rfl (kinc_1 _) (by decide) (lo' := [(2, .int (xL2 + (1 : Int32))), (0, .ref pL0), (1, .int xL1)]) rfl ?_
          refine r_goto (dc_X5_findOnTheWay 63 rfl) (tgt := 72) (by decide) ?_
          refine r_pick [1, 2, 0] (lo' := [(0, .ref pL0), (1, .int xL1), (2, .int (xL2 + (1 : Int32)))]) rfl ?_
          exact ih _ _ h
theorem t_X5_findOnTheWay {G : Gx} {d : Nat} (hl : G.1.stackTraces = false) (hd : 3 ≤ d) {σ : Sto} {a0 : Nat} {xa1 : Int32} {r : Sto} (h : F_X5_findOnTheWay σ a0 xa1 = some r) : Mi G d m_X5_findOnTheWay 5 a0 [.int xa1] σ (.inl none) r := by
  rw [F_X5_findOnTheWay] at h
  obtain ⟨hg, h⟩ := chk_some h
  refine ⟨J.toMt (lo := [(0, .ref a0), (1, .int xa1)]) pn_RX5 rfl hl (Nat.le_of_ble_eq_true rfl) rfl ?_, hg⟩
  refine r_aload_n (dc_X5_findOnTheWay 0 rfl) rfl rfl ?_
  obtain ⟨p1, e0, h⟩ := Option.bind_eq_some_iff.mp h
  refine r_getR (dc_X5_findOnTheWay 1 rfl) fl_RX5_33 e0 ?_
  obtain ⟨s2, e0, h⟩ := Option.bind_eq_some_iff.mp h
  refine r_callV (dc_X5_findOnTheWay 2 rfl) mv_X1_clear ml_RX5_93 (As := []) (t_X1_clear (d := d - 1) hl (by omega) e0) (by omega) rfl (Nat.le_of_ble_eq_true rfl) ?_
  refine r_iconst (dc_X5_findOnTheWay 3 rfl) kiconst_0 ?_
  refine r_istore_n (dc_X5_findOnTheWay 4 rfl) rfl (by decide) (lo' := [(2, .int (0 : Int32)), (0, .ref a0), (1, .int xa1)]) rfl ?_
  refine r_pick [1, 2, 0] (lo' := [(0, .ref a0), (1, .int xa1), (2, .int (0 : Int32))]) rfl ?_
  refine l_X5_findOnTheWay_L9 hl hd (hk70 := ?_) fu _ _ h
  · intro s14 h
    refine r_iconst (dc_X5_findOnTheWay 33 rfl) kiconst_0 ?_
    refine r_istore_n (dc_X5_findOnTheWay 34 rfl) rfl (by decide) (lo' := [(2, .int (0 : Int32)), (0, .ref a0), (1, .int xa1)]) rfl ?_
    refine r_pick [1, 2, 0] (lo' := [(0, .ref a0), (1, .int xa1), (2, .int (0 : Int32))]) rfl ?_
    refine l_X5_findOnTheWay_L72 hl hd (hk135 := ?_) fu _ _ h
    · intro s28 h
      cases h
      exact r_vreturn (dc_X5_findOnTheWay 64 rfl) rfl
theorem l_X5_lostTo_L9 {G : Gx} {d : Nat} (hl : G.1.stackTraces = false) (hd : 4 ≤ d) {pL0 : Nat} {xL1 : Int32} {r : (Int32 × Sto)} {k32 : Sto → Option (Int32 × Sto)}
    (hk32 : ∀ (sL : Sto), k32 sL = some r → J G d m_X5_lostTo 32 [(0, .ref pL0), (1, .int xL1)] [] sL (.inl (some (.int r.1))) r.2)
  : ∀ (f : Nat) (xL2 : Int32) (sL : Sto), F_X5_lostTo_L9 pL0 xL1 f xL2 sL k32 = some r → J G d m_X5_lostTo 9 [(0, .ref pL0), (1, .int xL1), (2, .int xL2)] [] sL (.inl (some (.int r.1))) r.2 := by
  intro f
  induction f with
  | zero => intro xL2 sL h; rw [F_X5_lostTo_L9] at h; cases h
  | succ f ih =>
    intro xL2 sL h
    rw [F_X5_lostTo_L9] at h
    refine r_iload_n (dc_X5_lostTo 5 rfl) rfl rfl ?_
    refine r_aload_n (dc_X5_lostTo 6 rfl) rfl rfl ?_
    obtain ⟨p3, e0, h⟩ := Option.bind_eq_some_iff.mp h
    refine r_getR (dc_X5_lostTo 7 rfl) fl_RX5_40 e0 ?_
    obtain ⟨x4, e0, h⟩ := Option.bind_eq_some_iff.mp h
    refine r_getI (dc_X5_lostTo 8 rfl) fl_RX5_45 e0 ?_
    refine r_icmp_ge (dc_X5_lostTo 9 rfl) (tgt := 32) (by decide) (fun c0 => ?_) (fun c0 => ?_)
    · rw [if_pos c0] at h
      refine r_pick [0, 1] (lo' := [(0, .ref pL0), (1, .int xL1)]) rfl ?_
      exact hk32 _ h
    · rw [if_neg c0] at h
      refine r_aload_n (dc_X5_lostTo 10 rfl) rfl rfl ?_
      refine r_iload_n (dc_X5_lostTo 11 rfl) rfl rfl ?_
      refine r_iload_n (dc_X5_lostTo 12 rfl) rfl rfl ?_
      obtain ⟨s5, e0, h⟩ := Option.bind_eq_some_iff.mp h
      refine r_callV (dc_X5_lostTo 13 rfl) mv_X5_findStillToBeTold ml_RX5_96 (As := [.int xL2, .int xL1]) (t_X5_findStillToBeTold (d := d - 1) hl (by omega) e0) (by omega) rfl (Nat.le_of_ble_eq_true rfl) ?_
      refine r_iinc (dc_X5_lostTo 14 rfl) rfl (kinc_1 _) (by decide) (lo' := [(2, .int (xL2 + (1 : Int32))), (0, .ref pL0), (1, .int xL1)]) rfl ?_
      refine r_goto (dc_X5_lostTo 15 rfl) (tgt := 9) (by decide) ?_
      refine r_pick [1, 2, 0] (lo' := [(0, .ref pL0), (1, .int xL1), (2, .int (xL2 + (1 : Int32)))]) rfl ?_
      exact ih _ _ h
theorem t_X5_lostTo {G : Gx} {d : Nat} (hl : G.1.stackTraces = false) (hd : 4 ≤ d) {σ : Sto} {a0 : Nat} {xa1 : Int32} {r : (Int32 × Sto)} (h : F_X5_lostTo σ a0 xa1 = some r) : Mi G d m_X5_lostTo 5 a0 [.int xa1] σ (.inl (some (.int r.1))) r.2 := by
  rw [F_X5_lostTo] at h
  obtain ⟨hg, h⟩ := chk_some h
  refine ⟨J.toMt (lo := [(0, .ref a0), (1, .int xa1)]) pn_RX5 rfl hl (Nat.le_of_ble_eq_true rfl) rfl ?_, hg⟩
  refine r_aload_n (dc_X5_lostTo 0 rfl) rfl rfl ?_
  obtain ⟨p1, e0, h⟩ := Option.bind_eq_some_iff.mp h
  refine r_getR (dc_X5_lostTo 1 rfl) fl_RX5_29 e0 ?_
  obtain ⟨s2, e0, h⟩ := Option.bind_eq_some_iff.mp h
  refine r_callV (dc_X5_lostTo 2 rfl) mv_X1_clear ml_RX5_93 (As := []) (t_X1_clear (d := d - 1) hl (by omega) e0) (by omega) rfl (Nat.le_of_ble_eq_true rfl) ?_
  refine r_iconst (dc_X5_lostTo 3 rfl) kiconst_0 ?_
  refine r_istore_n (dc_X5_lostTo 4 rfl) rfl (by decide) (lo' := [(2, .int (0 : Int32)), (0, .ref a0), (1, .int xa1)]) rfl ?_
  refine r_pick [1, 2, 0] (lo' := [(0, .ref a0), (1, .int xa1), (2, .int (0 : Int32))]) rfl ?_
  refine l_X5_lostTo_L9 hl hd (hk32 := ?_) fu _ _ h
  · intro s6 h
    refine r_aload_n (dc_X5_lostTo 16 rfl) rfl rfl ?_
    refine r_iload_n (dc_X5_lostTo 17 rfl) rfl rfl ?_
    obtain ⟨s7, e0, h⟩ := Option.bind_eq_some_iff.mp h
    refine r_callV (dc_X5_lostTo 18 rfl) mv_X5_findOnTheWay ml_RX5_100 (As := [.int xa1]) (t_X5_findOnTheWay (d := d - 1) hl (by omega) e0) (by omega) rfl (Nat.le_of_ble_eq_true rfl) ?_
    refine r_aload_n (dc_X5_lostTo 19 rfl) rfl rfl ?_
    obtain ⟨p8, e0, h⟩ := Option.bind_eq_some_iff.mp h
    refine r_getR (dc_X5_lostTo 20 rfl) fl_RX5_29 e0 ?_
    refine r_aload_n (dc_X5_lostTo 21 rfl) rfl rfl ?_
    obtain ⟨p9, e0, h⟩ := Option.bind_eq_some_iff.mp h
    refine r_getR (dc_X5_lostTo 22 rfl) fl_RX5_40 e0 ?_
    obtain ⟨p10, e0, h⟩ := Option.bind_eq_some_iff.mp h
    refine r_getR (dc_X5_lostTo 23 rfl) fl_RX5_66 e0 ?_
    refine r_iload_n (dc_X5_lostTo 24 rfl) rfl rfl ?_
    obtain ⟨p11, e0, h⟩ := Option.bind_eq_some_iff.mp h
    refine r_aaldR (dc_X5_lostTo 25 rfl) (kd := 4) rfl e0 ?_
    obtain ⟨p12, e0, h⟩ := Option.bind_eq_some_iff.mp h
    refine r_getR (dc_X5_lostTo 26 rfl) fl_RX5_69 e0 ?_
    obtain ⟨s13, e0, h⟩ := Option.bind_eq_some_iff.mp h
    refine r_callV (dc_X5_lostTo 27 rfl) mv_X1_insertAll ml_RX5_104 (As := [.ref p12]) (t_X1_insertAll (d := d - 1) hl (by omega) e0) (by omega) rfl (Nat.le_of_ble_eq_true rfl) ?_
    refine r_aload_n (dc_X5_lostTo 28 rfl) rfl rfl ?_
    obtain ⟨p14, e0, h⟩ := Option.bind_eq_some_iff.mp h
    refine r_getR (dc_X5_lostTo 29 rfl) fl_RX5_40 e0 ?_
    obtain ⟨p15, e0, h⟩ := Option.bind_eq_some_iff.mp h
    refine r_getR (dc_X5_lostTo 30 rfl) fl_RX5_50 e0 ?_
    obtain ⟨x16, e0, h⟩ := Option.bind_eq_some_iff.mp h
    refine r_getI (dc_X5_lostTo 31 rfl) fl_RX5_54 e0 ?_
    refine r_aload_n (dc_X5_lostTo 32 rfl) rfl rfl ?_
    obtain ⟨p17, e0, h⟩ := Option.bind_eq_some_iff.mp h
    refine r_getR (dc_X5_lostTo 33 rfl) fl_RX5_29 e0 ?_
    obtain ⟨x18, e0, h⟩ := Option.bind_eq_some_iff.mp h
    refine r_callV (dc_X5_lostTo 34 rfl) mv_X1_size ml_RX5_107 (As := []) (t_X1_size (d := d - 1) hl (by omega) e0) (by omega) rfl (Nat.le_of_ble_eq_true rfl) ?_
    refine r_isub (dc_X5_lostTo 35 rfl) ?_
    cases h
    exact r_ireturn (dc_X5_lostTo 36 rfl) rfl
theorem l_X5_lostInAll_L4 {G : Gx} {d : Nat} (hl : G.1.stackTraces = false) (hd : 5 ≤ d) {pL0 : Nat} {r : (Int32 × Sto)} {k29 : Int32 → Sto → Option (Int32 × Sto)}
    (hk29 : ∀ (xL1 : Int32) (sL : Sto), k29 xL1 sL = some r → J G d m_X5_lostInAll 29 [(1, .int xL1)] [] sL (.inl (some (.int r.1))) r.2)
  : ∀ (f : Nat) (xL1 : Int32) (xL2 : Int32) (sL : Sto), F_X5_lostInAll_L4 pL0 f xL1 xL2 sL k29 = some r → J G d m_X5_lostInAll 4 [(0, .ref pL0), (1, .int xL1), (2, .int xL2)] [] sL (.inl (some (.int r.1))) r.2 := by
  intro f
  induction f with
  | zero => intro xL1 xL2 sL h; rw [F_X5_lostInAll_L4] at h; cases h
  | succ f ih =>
    intro xL1 xL2 sL h
    rw [F_X5_lostInAll_L4] at h
    refine r_iload_n (dc_X5_lostInAll 4 rfl) rfl rfl ?_
    refine r_aload_n (dc_X5_lostInAll 5 rfl) rfl rfl ?_
    obtain ⟨p1, e0, h⟩ := Option.bind_eq_some_iff.mp h
    refine r_getR (dc_X5_lostInAll 6 rfl) fl_RX5_40 e0 ?_
    obtain ⟨x2, e0, h⟩ := Option.bind_eq_some_iff.mp h
    refine r_getI (dc_X5_lostInAll 7 rfl) fl_RX5_45 e0 ?_
    refine r_icmp_ge (dc_X5_lostInAll 8 rfl) (tgt := 29) (by decide) (fun c0 => ?_) (fun c0 => ?_)
    · rw [if_pos c0] at h
      refine r_pick [1] (lo' := [(1, .int xL1)]) rfl ?_
      exact hk29 _ _ h
    · rw [if_neg c0] at h
      refine r_iload_n (dc_X5_lostInAll 9 rfl) rfl rfl ?_
      refine r_aload_n (dc_X5_lostInAll 10 rfl) rfl rfl ?_
      refine r_iload_n (dc_X5_lostInAll 11 rfl) rfl rfl ?_
      obtain ⟨x4, s3, e0, h⟩ := wb_some h
      refine r_callV (dc_X5_lostInAll 12 rfl) mv_X5_lostTo ml_RX5_137 (As := [.int xL2]) (t_X5_lostTo (d := d - 1) hl (by omega) e0) (by omega) rfl (Nat.le_of_ble_eq_true rfl) ?_
      refine r_iadd (dc_X5_lostInAll 13 rfl) ?_
      refine r_istore_n (dc_X5_lostInAll 14 rfl) rfl (by decide) (lo' := [(1, .int (xL1 + x4)), (0, .ref pL0), (2, .int xL2)]) rfl ?_
      refine r_iinc (dc_X5_lostInAll 15 rfl) rfl (kinc_1 _) (by decide) (lo' := [(2, .int (xL2 + (1 : Int32))), (1, .int (xL1 + x4)), (0, .ref pL0)]) rfl ?_
      refine r_goto (dc_X5_lostInAll 16 rfl) (tgt := 4) (by decide) ?_
      refine r_pick [2, 1, 0] (lo' := [(0, .ref pL0), (1, .int (xL1 + x4)), (2, .int (xL2 + (1 : Int32)))]) rfl ?_
      exact ih _ _ _ h
theorem t_X5_lostInAll {G : Gx} {d : Nat} (hl : G.1.stackTraces = false) (hd : 5 ≤ d) {σ : Sto} {a0 : Nat} {r : (Int32 × Sto)} (h : F_X5_lostInAll σ a0 = some r) : Mi G d m_X5_lostInAll 5 a0 [] σ (.inl (some (.int r.1))) r.2 := by
  rw [F_X5_lostInAll] at h
  obtain ⟨hg, h⟩ := chk_some h
  refine ⟨J.toMt (lo := [(0, .ref a0)]) pn_RX5 rfl hl (Nat.le_of_ble_eq_true rfl) rfl ?_, hg⟩
  refine r_iconst (dc_X5_lostInAll 0 rfl) kiconst_0 ?_
  refine r_istore_n (dc_X5_lostInAll 1 rfl) rfl (by decide) (lo' := [(1, .int (0 : Int32)), (0, .ref a0)]) rfl ?_
  refine r_iconst (dc_X5_lostInAll 2 rfl) kiconst_0 ?_
  refine r_istore_n (dc_X5_lostInAll 3 rfl) rfl (by decide) (lo' := [(2, .int (0 : Int32)), (1, .int (0 : Int32)), (0, .ref a0)]) rfl ?_
  refine r_pick [2, 1, 0] (lo' := [(0, .ref a0), (1, .int (0 : Int32)), (2, .int (0 : Int32))]) rfl ?_
  refine l_X5_lostInAll_L4 hl hd (hk29 := ?_) fu _ _ _ h
  · intro x5 s6 h
    refine r_iload_n (dc_X5_lostInAll 17 rfl) rfl rfl ?_
    cases h
    exact r_ireturn (dc_X5_lostInAll 18 rfl) rfl
theorem l_X5_heldByAll_L21 {G : Gx} {d : Nat} (hl : G.1.stackTraces = false) (hd : 2 ≤ d) {pL0 : Nat} {r : (Int32 × Sto)} {k57 : Sto → Option (Int32 × Sto)}
    (hk57 : ∀ (sL : Sto), k57 sL = some r → J G d m_X5_heldByAll 57 [(0, .ref pL0)] [] sL (.inl (some (.int r.1))) r.2)
  : ∀ (f : Nat) (xL1 : Int32) (sL : Sto), F_X5_heldByAll_L21 pL0 f xL1 sL k57 = some r → J G d m_X5_heldByAll 21 [(0, .ref pL0), (1, .int xL1)] [] sL (.inl (some (.int r.1))) r.2 := by
  intro f
  induction f with
  | zero => intro xL1 sL h; rw [F_X5_heldByAll_L21] at h; cases h
  | succ f ih =>
    intro xL1 sL h
    rw [F_X5_heldByAll_L21] at h
    refine r_iload_n (dc_X5_heldByAll 11 rfl) rfl rfl ?_
    refine r_aload_n (dc_X5_heldByAll 12 rfl) rfl rfl ?_
    obtain ⟨p7, e0, h⟩ := Option.bind_eq_some_iff.mp h
    refine r_getR (dc_X5_heldByAll 13 rfl) fl_RX5_40 e0 ?_
    obtain ⟨x8, e0, h⟩ := Option.bind_eq_some_iff.mp h
    refine r_getI (dc_X5_heldByAll 14 rfl) fl_RX5_45 e0 ?_
    refine r_icmp_ge (dc_X5_heldByAll 15 rfl) (tgt := 57) (by decide) (fun c0 => ?_) (fun c0 => ?_)
    · rw [if_pos c0] at h
      refine r_pick [0] (lo' := [(0, .ref pL0)]) rfl ?_
      exact hk57 _ h
    · rw [if_neg c0] at h
      refine r_aload_n (dc_X5_heldByAll 16 rfl) rfl rfl ?_
      obtain ⟨p9, e0, h⟩ := Option.bind_eq_some_iff.mp h
      refine r_getR (dc_X5_heldByAll 17 rfl) fl_RX5_29 e0 ?_
      refine r_aload_n (dc_X5_heldByAll 18 rfl) rfl rfl ?_
      obtain ⟨p10, e0, h⟩ := Option.bind_eq_some_iff.mp h
      refine r_getR (dc_X5_heldByAll 19 rfl) fl_RX5_40 e0 ?_
      obtain ⟨p11, e0, h⟩ := Option.bind_eq_some_iff.mp h
      refine r_getR (dc_X5_heldByAll 20 rfl) fl_RX5_66 e0 ?_
      refine r_iload_n (dc_X5_heldByAll 21 rfl) rfl rfl ?_
      obtain ⟨p12, e0, h⟩ := Option.bind_eq_some_iff.mp h
      refine r_aaldR (dc_X5_heldByAll 22 rfl) (kd := 4) rfl e0 ?_
      obtain ⟨p13, e0, h⟩ := Option.bind_eq_some_iff.mp h
      refine r_getR (dc_X5_heldByAll 23 rfl) fl_RX5_69 e0 ?_
      obtain ⟨s14, e0, h⟩ := Option.bind_eq_some_iff.mp h
      refine r_callV (dc_X5_heldByAll 24 rfl) mv_X1_retainAll ml_RX5_143 (As := [.ref p13]) (t_X1_retainAll (d := d - 1) hl (by omega) e0) (by omega) rfl (Nat.le_of_ble_eq_true rfl) ?_
      refine r_iinc (dc_X5_heldByAll 25 rfl) rfl (kinc_1 _) (by decide) (lo' := [(1, .int (xL1 + (1 : Int32))), (0, .ref pL0)]) rfl ?_
      refine r_goto (dc_X5_heldByAll 26 rfl) (tgt := 21) (by decide) ?_
      refine r_pick [1, 0] (lo' := [(0, .ref pL0), (1, .int (xL1 + (1 : Int32)))]) rfl ?_
      exact ih _ _ h
theorem t_X5_heldByAll {G : Gx} {d : Nat} (hl : G.1.stackTraces = false) (hd : 2 ≤ d) {σ : Sto} {a0 : Nat} {r : (Int32 × Sto)} (h : F_X5_heldByAll σ a0 = some r) : Mi G d m_X5_heldByAll 5 a0 [] σ (.inl (some (.int r.1))) r.2 := by
  rw [F_X5_heldByAll] at h
  obtain ⟨hg, h⟩ := chk_some h
  refine ⟨J.toMt (lo := [(0, .ref a0)]) pn_RX5 rfl hl (Nat.le_of_ble_eq_true rfl) rfl ?_, hg⟩
  refine r_aload_n (dc_X5_heldByAll 0 rfl) rfl rfl ?_
  obtain ⟨p1, e0, h⟩ := Option.bind_eq_some_iff.mp h
  refine r_getR (dc_X5_heldByAll 1 rfl) fl_RX5_29 e0 ?_
  refine r_aload_n (dc_X5_heldByAll 2 rfl) rfl rfl ?_
  obtain ⟨p2, e0, h⟩ := Option.bind_eq_some_iff.mp h
  refine r_getR (dc_X5_heldByAll 3 rfl) fl_RX5_40 e0 ?_
  obtain ⟨p3, e0, h⟩ := Option.bind_eq_some_iff.mp h
  refine r_getR (dc_X5_heldByAll 4 rfl) fl_RX5_66 e0 ?_
  refine r_iconst (dc_X5_heldByAll 5 rfl) kiconst_0 ?_
  obtain ⟨p4, e0, h⟩ := Option.bind_eq_some_iff.mp h
  refine r_aaldR (dc_X5_heldByAll 6 rfl) (kd := 4) rfl e0 ?_
  obtain ⟨p5, e0, h⟩ := Option.bind_eq_some_iff.mp h
  refine r_getR (dc_X5_heldByAll 7 rfl) fl_RX5_69 e0 ?_
  obtain ⟨s6, e0, h⟩ := Option.bind_eq_some_iff.mp h
  refine r_callV (dc_X5_heldByAll 8 rfl) mv_X1_copyOf ml_RX5_140 (As := [.ref p5]) (t_X1_copyOf (d := d - 1) hl (by omega) e0) (by omega) rfl (Nat.le_of_ble_eq_true rfl) ?_
  refine r_iconst (dc_X5_heldByAll 9 rfl) kiconst_1 ?_
  refine r_istore_n (dc_X5_heldByAll 10 rfl) rfl (by decide) (lo' := [(1, .int (1 : Int32)), (0, .ref a0)]) rfl ?_
  refine r_pick [1, 0] (lo' := [(0, .ref a0), (1, .int (1 : Int32))]) rfl ?_
  refine l_X5_heldByAll_L21 hl hd (hk57 := ?_) fu _ _ h
  · intro s15 h
    refine r_aload_n (dc_X5_heldByAll 27 rfl) rfl rfl ?_
    obtain ⟨p16, e0, h⟩ := Option.bind_eq_some_iff.mp h
    refine r_getR (dc_X5_heldByAll 28 rfl) fl_RX5_29 e0 ?_
    obtain ⟨x17, e0, h⟩ := Option.bind_eq_some_iff.mp h
    refine r_callV (dc_X5_heldByAll 29 rfl) mv_X1_size ml_RX5_107 (As := []) (t_X1_size (d := d - 1) hl (by omega) e0) (by omega) rfl (Nat.le_of_ble_eq_true rfl) ?_
    cases h
    exact r_ireturn (dc_X5_heldByAll 30 rfl) rfl
theorem l_X5_heldByAllInLog_L20 {G : Gx} {d : Nat} (hl : G.1.stackTraces = false) (hd : 3 ≤ d) {sL : Sto} {pL0 : Nat} {pL3 : Nat} {r : (Int32 × Sto)} {k55 : Int32 → Option (Int32 × Sto)}
    (hk55 : ∀ (xL2 : Int32), k55 xL2 = some r → J G d m_X5_heldByAllInLog 55 [(2, .int xL2)] [] sL (.inl (some (.int r.1))) r.2)
  : ∀ (f : Nat) (xL2 : Int32) (xL4 : Int32), F_X5_heldByAllInLog_L20 sL pL0 pL3 f xL2 xL4 k55 = some r → J G d m_X5_heldByAllInLog 20 [(0, .ref pL0), (2, .int xL2), (3, .ref pL3), (4, .int xL4)] [] sL (.inl (some (.int r.1))) r.2 := by
  intro f
  induction f with
  | zero => intro xL2 xL4 h; rw [F_X5_heldByAllInLog_L20] at h; cases h
  | succ f ih =>
    intro xL2 xL4 h
    rw [F_X5_heldByAllInLog_L20] at h
    refine r_iload (dc_X5_heldByAllInLog 13 rfl) rfl ?_
    refine r_aload_n (dc_X5_heldByAllInLog 14 rfl) rfl rfl ?_
    obtain ⟨x6, e0, h⟩ := Option.bind_eq_some_iff.mp h
    refine r_getI (dc_X5_heldByAllInLog 15 rfl) fl_RX5_110 e0 ?_
    refine r_icmp_ge (dc_X5_heldByAllInLog 16 rfl) (tgt := 55) (by decide) (fun c0 => ?_) (fun c0 => ?_)
    · rw [if_pos c0] at h
      refine r_pick [1] (lo' := [(2, .int xL2)]) rfl ?_
      exact hk55 _ h
    · rw [if_neg c0] at h
      refine r_aload_n (dc_X5_heldByAllInLog 17 rfl) rfl rfl ?_
      obtain ⟨p7, e0, h⟩ := Option.bind_eq_some_iff.mp h
      refine r_getR (dc_X5_heldByAllInLog 18 rfl) fl_RX5_29 e0 ?_
      refine r_aload_n (dc_X5_heldByAllInLog 19 rfl) rfl rfl ?_
      obtain ⟨p8, e0, h⟩ := Option.bind_eq_some_iff.mp h
      refine r_getR (dc_X5_heldByAllInLog 20 rfl) fl_RX5_113 e0 ?_
      refine r_iload (dc_X5_heldByAllInLog 21 rfl) rfl ?_
      obtain ⟨x9, e0, h⟩ := Option.bind_eq_some_iff.mp h
      refine r_iald (dc_X5_heldByAllInLog 22 rfl) e0 ?_
      obtain ⟨x10, e0, h⟩ := Option.bind_eq_some_iff.mp h
      refine r_callV (dc_X5_heldByAllInLog 23 rfl) mv_X1_holds ml_RX5_72 (As := [.int x9]) (t_X1_holds (d := d - 1) hl (by omega) e0) (by omega) rfl (Nat.le_of_ble_eq_true rfl) ?_
      refine r_if_eq (dc_X5_heldByAllInLog 24 rfl) (tgt := 49) (by decide) (fun c0 => ?_) (fun c0 => ?_)
      · rw [if_pos c0] at h
        refine r_iinc (dc_X5_heldByAllInLog 26 rfl) rfl (kinc_1 _) (by decide) (lo' := [(4, .int (xL4 + (1 : Int32))), (0, .ref pL0), (2, .int xL2), (3, .ref pL3)]) rfl ?_
        refine r_goto (dc_X5_heldByAllInLog 27 rfl) (tgt := 20) (by decide) ?_
        refine r_pick [1, 2, 3, 0] (lo' := [(0, .ref pL0), (2, .int xL2), (3, .ref pL3), (4, .int (xL4 + (1 : Int32)))]) rfl ?_
        exact ih _ _ h
      · rw [if_neg c0] at h
        refine r_iinc (dc_X5_heldByAllInLog 25 rfl) rfl (kinc_1 _) (by decide) (lo' := [(2, .int (xL2 + (1 : Int32))), (0, .ref pL0), (3, .ref pL3), (4, .int xL4)]) rfl ?_
        refine r_iinc (dc_X5_heldByAllInLog 26 rfl) rfl (kinc_1 _) (by decide) (lo' := [(4, .int (xL4 + (1 : Int32))), (2, .int (xL2 + (1 : Int32))), (0, .ref pL0), (3, .ref pL3)]) rfl ?_
        refine r_goto (dc_X5_heldByAllInLog 27 rfl) (tgt := 20) (by decide) ?_
        refine r_pick [2, 1, 3, 0] (lo' := [(0, .ref pL0), (2, .int (xL2 + (1 : Int32))), (3, .ref pL3), (4, .int (xL4 + (1 : Int32)))]) rfl ?_
        exact ih _ _ h
theorem t_X5_heldByAllInLog {G : Gx} {d : Nat} (hl : G.1.stackTraces = false) (hd : 3 ≤ d) {σ : Sto} {a0 : Nat} {xa1 : Int32} {r : (Int32 × Sto)} (h : F_X5_heldByAllInLog σ a0 xa1 = some r) : Mi G d m_X5_heldByAllInLog 5 a0 [.int xa1] σ (.inl (some (.int r.1))) r.2 := by
  rw [F_X5_heldByAllInLog] at h
  obtain ⟨hg, h⟩ := chk_some h
  refine ⟨J.toMt (lo := [(0, .ref a0), (1, .int xa1)]) pn_RX5 rfl hl (Nat.le_of_ble_eq_true rfl) rfl ?_, hg⟩
  refine r_aload_n (dc_X5_heldByAllInLog 0 rfl) rfl rfl ?_
  obtain ⟨x2, s1, e0, h⟩ := wb_some h
  refine r_callV (dc_X5_heldByAllInLog 1 rfl) mv_X5_heldByAll ml_RX5_146 (As := []) (t_X5_heldByAll (d := d - 1) hl (by omega) e0) (by omega) rfl (Nat.le_of_ble_eq_true rfl) ?_
  refine r_pop (dc_X5_heldByAllInLog 2 rfl) rfl ?_
  refine r_iconst (dc_X5_heldByAllInLog 3 rfl) kiconst_0 ?_
  refine r_istore_n (dc_X5_heldByAllInLog 4 rfl) rfl (by decide) (lo' := [(2, .int (0 : Int32)), (0, .ref a0), (1, .int xa1)]) rfl ?_
  refine r_aload_n (dc_X5_heldByAllInLog 5 rfl) rfl rfl ?_
  obtain ⟨p3, e0, h⟩ := Option.bind_eq_some_iff.mp h
  refine r_getR (dc_X5_heldByAllInLog 6 rfl) fl_RX5_40 e0 ?_
  obtain ⟨p4, e0, h⟩ := Option.bind_eq_some_iff.mp h
  refine r_getR (dc_X5_heldByAllInLog 7 rfl) fl_RX5_66 e0 ?_
  refine r_iload_n (dc_X5_heldByAllInLog 8 rfl) rfl rfl ?_
  obtain ⟨p5, e0, h⟩ := Option.bind_eq_some_iff.mp h
  refine r_aaldR (dc_X5_heldByAllInLog 9 rfl) (kd := 4) rfl e0 ?_
  refine r_astore_n (dc_X5_heldByAllInLog 10 rfl) rfl (by decide) (lo' := [(3, .ref p5), (2, .int (0 : Int32)), (0, .ref a0), (1, .int xa1)]) rfl ?_
  refine r_iconst (dc_X5_heldByAllInLog 11 rfl) kiconst_0 ?_
  refine r_istore (dc_X5_heldByAllInLog 12 rfl) (by decide) (lo' := [(4, .int (0 : Int32)), (3, .ref p5), (2, .int (0 : Int32)), (0, .ref a0), (1, .int xa1)]) rfl ?_
  refine r_pick [3, 2, 1, 0] (lo' := [(0, .ref a0), (2, .int (0 : Int32)), (3, .ref p5), (4, .int (0 : Int32))]) rfl ?_
  refine l_X5_heldByAllInLog_L20 hl hd (hk55 := ?_) fu _ _ h
  · intro x11 h
    refine r_iload_n (dc_X5_heldByAllInLog 28 rfl) rfl rfl ?_
    cases h
    exact r_ireturn (dc_X5_heldByAllInLog 29 rfl) rfl
theorem l_X5_frontOf_L23 {G : Gx} {d : Nat} (hl : G.1.stackTraces = false) (hd : 1 ≤ d) {pL0 : Nat} {pL2 : Nat} {r : (Nat × Sto)} {k70 : Sto → Option (Nat × Sto)}
    (hk70 : ∀ (sL : Sto), k70 sL = some r → J G d m_X5_frontOf 70 [(0, .ref pL0)] [] sL (.inl (some (.ref r.1))) r.2)
  : ∀ (f : Nat) (xL3 : Int32) (sL : Sto), F_X5_frontOf_L23 pL0 pL2 f xL3 sL k70 = some r → J G d m_X5_frontOf 23 [(0, .ref pL0), (2, .ref pL2), (3, .int xL3)] [] sL (.inl (some (.ref r.1))) r.2 := by
  intro f
  induction f with
  | zero => intro xL3 sL h; rw [F_X5_frontOf_L23] at h; cases h
  | succ f ih =>
    intro xL3 sL h
    rw [F_X5_frontOf_L23] at h
    refine r_iload_n (dc_X5_frontOf 13 rfl) rfl rfl ?_
    refine r_aload_n (dc_X5_frontOf 14 rfl) rfl rfl ?_
    obtain ⟨p7, e0, h⟩ := Option.bind_eq_some_iff.mp h
    refine r_getR (dc_X5_frontOf 15 rfl) fl_RX5_40 e0 ?_
    obtain ⟨p8, e0, h⟩ := Option.bind_eq_some_iff.mp h
    refine r_getR (dc_X5_frontOf 16 rfl) fl_RX5_50 e0 ?_
    obtain ⟨x9, e0, h⟩ := Option.bind_eq_some_iff.mp h
    refine r_getI (dc_X5_frontOf 17 rfl) fl_RX5_54 e0 ?_
    refine r_icmp_ge (dc_X5_frontOf 18 rfl) (tgt := 70) (by decide) (fun c0 => ?_) (fun c0 => ?_)
    · rw [if_pos c0] at h
      refine r_pick [0] (lo' := [(0, .ref pL0)]) rfl ?_
      exact hk70 _ h
    · rw [if_neg c0] at h
      refine r_aload_n (dc_X5_frontOf 19 rfl) rfl rfl ?_
      refine r_iload_n (dc_X5_frontOf 20 rfl) rfl rfl ?_
      obtain ⟨x10, e0, h⟩ := Option.bind_eq_some_iff.mp h
      refine r_callV (dc_X5_frontOf 21 rfl) mv_X1_holds ml_RX5_72 (As := [.int xL3]) (t_X1_holds (d := d - 1) hl (by omega) e0) (by omega) rfl (Nat.le_of_ble_eq_true rfl) ?_
      refine r_if_eq (dc_X5_frontOf 22 rfl) (tgt := 64) (by decide) (fun c0 => ?_) (fun c0 => ?_)
      · rw [if_pos c0] at h
        refine r_iinc (dc_X5_frontOf 32 rfl) rfl (kinc_1 _) (by decide) (lo' := [(3, .int (xL3 + (1 : Int32))), (0, .ref pL0), (2, .ref pL2)]) rfl ?_
        refine r_goto (dc_X5_frontOf 33 rfl) (tgt := 23) (by decide) ?_
        refine r_pick [1, 2, 0] (lo' := [(0, .ref pL0), (2, .ref pL2), (3, .int (xL3 + (1 : Int32)))]) rfl ?_
        exact ih _ _ h
      · rw [if_neg c0] at h
        refine r_aload_n (dc_X5_frontOf 23 rfl) rfl rfl ?_
        obtain ⟨p11, e0, h⟩ := Option.bind_eq_some_iff.mp h
        refine r_getR (dc_X5_frontOf 24 rfl) fl_RX5_29 e0 ?_
        refine r_aload_n (dc_X5_frontOf 25 rfl) rfl rfl ?_
        obtain ⟨p12, e0, h⟩ := Option.bind_eq_some_iff.mp h
        refine r_getR (dc_X5_frontOf 26 rfl) fl_RX5_40 e0 ?_
        obtain ⟨p13, e0, h⟩ := Option.bind_eq_some_iff.mp h
        refine r_getR (dc_X5_frontOf 27 rfl) fl_RX5_50 e0 ?_
        obtain ⟨p14, e0, h⟩ := Option.bind_eq_some_iff.mp h
        refine r_getR (dc_X5_frontOf 28 rfl) fl_RX5_149 e0 ?_
        refine r_iload_n (dc_X5_frontOf 29 rfl) rfl rfl ?_
        obtain ⟨p15, e0, h⟩ := Option.bind_eq_some_iff.mp h
        refine r_aaldR (dc_X5_frontOf 30 rfl) (kd := 3) rfl e0 ?_
        obtain ⟨s16, e0, h⟩ := Option.bind_eq_some_iff.mp h
        refine r_callV (dc_X5_frontOf 31 rfl) mv_X1_removeAll ml_RX5_153 (As := [.ref p15]) (t_X1_removeAll (d := d - 1) hl (by omega) e0) (by omega) rfl (Nat.le_of_ble_eq_true rfl) ?_
        refine r_iinc (dc_X5_frontOf 32 rfl) rfl (kinc_1 _) (by decide) (lo' := [(3, .int (xL3 + (1 : Int32))), (0, .ref pL0), (2, .ref pL2)]) rfl ?_
        refine r_goto (dc_X5_frontOf 33 rfl) (tgt := 23) (by decide) ?_
        refine r_pick [1, 2, 0] (lo' := [(0, .ref pL0), (2, .ref pL2), (3, .int (xL3 + (1 : Int32)))]) rfl ?_
        exact ih _ _ h
theorem t_X5_frontOf {G : Gx} {d : Nat} (hl : G.1.stackTraces = false) (hd : 1 ≤ d) {σ : Sto} {a0 : Nat} {xa1 : Int32} {r : (Nat × Sto)} (h : F_X5_frontOf σ a0 xa1 = some r) : Mi G d m_X5_frontOf 5 a0 [.int xa1] σ (.inl (some (.ref r.1))) r.2 := by
  rw [F_X5_frontOf] at h
  obtain ⟨hg, h⟩ := chk_some h
  refine ⟨J.toMt (lo := [(0, .ref a0), (1, .int xa1)]) pn_RX5 rfl hl (Nat.le_of_ble_eq_true rfl) rfl ?_, hg⟩
  refine r_aload_n (dc_X5_frontOf 0 rfl) rfl rfl ?_
  obtain ⟨p1, e0, h⟩ := Option.bind_eq_some_iff.mp h
  refine r_getR (dc_X5_frontOf 1 rfl) fl_RX5_40 e0 ?_
  obtain ⟨p2, e0, h⟩ := Option.bind_eq_some_iff.mp h
  refine r_getR (dc_X5_frontOf 2 rfl) fl_RX5_66 e0 ?_
  refine r_iload_n (dc_X5_frontOf 3 rfl) rfl rfl ?_
  obtain ⟨p3, e0, h⟩ := Option.bind_eq_some_iff.mp h
  refine r_aaldR (dc_X5_frontOf 4 rfl) (kd := 4) rfl e0 ?_
  obtain ⟨p4, e0, h⟩ := Option.bind_eq_some_iff.mp h
  refine r_getR (dc_X5_frontOf 5 rfl) fl_RX5_69 e0 ?_
  refine r_astore_n (dc_X5_frontOf 6 rfl) rfl (by decide) (lo' := [(2, .ref p4), (0, .ref a0), (1, .int xa1)]) rfl ?_
  refine r_aload_n (dc_X5_frontOf 7 rfl) rfl rfl ?_
  obtain ⟨p5, e0, h⟩ := Option.bind_eq_some_iff.mp h
  refine r_getR (dc_X5_frontOf 8 rfl) fl_RX5_29 e0 ?_
  refine r_aload_n (dc_X5_frontOf 9 rfl) rfl rfl ?_
  obtain ⟨s6, e0, h⟩ := Option.bind_eq_some_iff.mp h
  refine r_callV (dc_X5_frontOf 10 rfl) mv_X1_copyOf ml_RX5_140 (As := [.ref p4]) (t_X1_copyOf (d := d - 1) hl (by omega) e0) (by omega) rfl (Nat.le_of_ble_eq_true rfl) ?_
  refine r_iconst (dc_X5_frontOf 11 rfl) kiconst_0 ?_
  refine r_istore_n (dc_X5_frontOf 12 rfl) rfl (by decide) (lo' := [(3, .int (0 : Int32)), (2, .ref p4), (0, .ref a0), (1, .int xa1)]) rfl ?_
  refine r_pick [2, 1, 0] (lo' := [(0, .ref a0), (2, .ref p4), (3, .int (0 : Int32))]) rfl ?_
  refine l_X5_frontOf_L23 hl hd (hk70 := ?_) fu _ _ h
  · intro s17 h
    refine r_aload_n (dc_X5_frontOf 34 rfl) rfl rfl ?_
    obtain ⟨p18, e0, h⟩ := Option.bind_eq_some_iff.mp h
    refine r_getR (dc_X5_frontOf 35 rfl) fl_RX5_29 e0 ?_
    cases h
    exact r_areturn (dc_X5_frontOf 36 rfl) rfl
theorem t_X5_onlyAt {G : Gx} {d : Nat} (hl : G.1.stackTraces = false) (hd : 1 ≤ d) {σ : Sto} {a0 : Nat} {xa1 : Int32} {xa2 : Int32} {r : (Nat × Sto)} (h : F_X5_onlyAt σ a0 xa1 xa2 = some r) : Mi G d m_X5_onlyAt 5 a0 [.int xa1, .int xa2] σ (.inl (some (.ref r.1))) r.2 := by
  rw [F_X5_onlyAt] at h
  obtain ⟨hg, h⟩ := chk_some h
  refine ⟨J.toMt (lo := [(0, .ref a0), (1, .int xa1), (2, .int xa2)]) pn_RX5 rfl hl (Nat.le_of_ble_eq_true rfl) rfl ?_, hg⟩
  refine r_aload_n (dc_X5_onlyAt 0 rfl) rfl rfl ?_
  obtain ⟨p1, e0, h⟩ := Option.bind_eq_some_iff.mp h
  refine r_getR (dc_X5_onlyAt 1 rfl) fl_RX5_29 e0 ?_
  refine r_aload_n (dc_X5_onlyAt 2 rfl) rfl rfl ?_
  obtain ⟨p2, e0, h⟩ := Option.bind_eq_some_iff.mp h
  refine r_getR (dc_X5_onlyAt 3 rfl) fl_RX5_40 e0 ?_
  obtain ⟨p3, e0, h⟩ := Option.bind_eq_some_iff.mp h
  refine r_getR (dc_X5_onlyAt 4 rfl) fl_RX5_66 e0 ?_
  refine r_iload_n (dc_X5_onlyAt 5 rfl) rfl rfl ?_
  obtain ⟨p4, e0, h⟩ := Option.bind_eq_some_iff.mp h
  refine r_aaldR (dc_X5_onlyAt 6 rfl) (kd := 4) rfl e0 ?_
  obtain ⟨p5, e0, h⟩ := Option.bind_eq_some_iff.mp h
  refine r_getR (dc_X5_onlyAt 7 rfl) fl_RX5_156 e0 ?_
  obtain ⟨s6, e0, h⟩ := Option.bind_eq_some_iff.mp h
  refine r_callV (dc_X5_onlyAt 8 rfl) mv_X1_copyOf ml_RX5_140 (As := [.ref p5]) (t_X1_copyOf (d := d - 1) hl (by omega) e0) (by omega) rfl (Nat.le_of_ble_eq_true rfl) ?_
  refine r_aload_n (dc_X5_onlyAt 9 rfl) rfl rfl ?_
  obtain ⟨p7, e0, h⟩ := Option.bind_eq_some_iff.mp h
  refine r_getR (dc_X5_onlyAt 10 rfl) fl_RX5_29 e0 ?_
  refine r_aload_n (dc_X5_onlyAt 11 rfl) rfl rfl ?_
  obtain ⟨p8, e0, h⟩ := Option.bind_eq_some_iff.mp h
  refine r_getR (dc_X5_onlyAt 12 rfl) fl_RX5_40 e0 ?_
  obtain ⟨p9, e0, h⟩ := Option.bind_eq_some_iff.mp h
  refine r_getR (dc_X5_onlyAt 13 rfl) fl_RX5_66 e0 ?_
  refine r_iload_n (dc_X5_onlyAt 14 rfl) rfl rfl ?_
  obtain ⟨p10, e0, h⟩ := Option.bind_eq_some_iff.mp h
  refine r_aaldR (dc_X5_onlyAt 15 rfl) (kd := 4) rfl e0 ?_
  obtain ⟨p11, e0, h⟩ := Option.bind_eq_some_iff.mp h
  refine r_getR (dc_X5_onlyAt 16 rfl) fl_RX5_156 e0 ?_
  obtain ⟨s12, e0, h⟩ := Option.bind_eq_some_iff.mp h
  refine r_callV (dc_X5_onlyAt 17 rfl) mv_X1_removeAll ml_RX5_153 (As := [.ref p11]) (t_X1_removeAll (d := d - 1) hl (by omega) e0) (by omega) rfl (Nat.le_of_ble_eq_true rfl) ?_
  refine r_aload_n (dc_X5_onlyAt 18 rfl) rfl rfl ?_
  obtain ⟨p13, e0, h⟩ := Option.bind_eq_some_iff.mp h
  refine r_getR (dc_X5_onlyAt 19 rfl) fl_RX5_29 e0 ?_
  cases h
  exact r_areturn (dc_X5_onlyAt 20 rfl) rfl
theorem t_X5_wouldCarry {G : Gx} {d : Nat} (hl : G.1.stackTraces = false) (hd : 3 ≤ d) {σ : Sto} {a0 : Nat} {xa1 : Int32} {xa2 : Int32} {xa3 : Int32} {r : (Int32 × Sto)} (h : F_X5_wouldCarry σ a0 xa1 xa2 xa3 = some r) : Mi G d m_X5_wouldCarry 5 a0 [.int xa1, .int xa2, .int xa3] σ (.inl (some (.int r.1))) r.2 := by
  rw [F_X5_wouldCarry] at h
  obtain ⟨hg, h⟩ := chk_some h
  refine ⟨J.toMt (lo := [(0, .ref a0), (1, .int xa1), (2, .int xa2), (3, .int xa3)]) pn_RX5 rfl hl (Nat.le_of_ble_eq_true rfl) rfl ?_, hg⟩
  refine r_aload_n (dc_X5_wouldCarry 0 rfl) rfl rfl ?_
  obtain ⟨p1, e0, h⟩ := Option.bind_eq_some_iff.mp h
  refine r_getR (dc_X5_wouldCarry 1 rfl) fl_RX5_25 e0 ?_
  refine r_aload_n (dc_X5_wouldCarry 2 rfl) rfl rfl ?_
  obtain ⟨p2, e0, h⟩ := Option.bind_eq_some_iff.mp h
  refine r_getR (dc_X5_wouldCarry 3 rfl) fl_RX5_40 e0 ?_
  obtain ⟨p3, e0, h⟩ := Option.bind_eq_some_iff.mp h
  refine r_getR (dc_X5_wouldCarry 4 rfl) fl_RX5_66 e0 ?_
  refine r_iload_n (dc_X5_wouldCarry 5 rfl) rfl rfl ?_
  obtain ⟨p4, e0, h⟩ := Option.bind_eq_some_iff.mp h
  refine r_aaldR (dc_X5_wouldCarry 6 rfl) (kd := 4) rfl e0 ?_
  refine r_aload_n (dc_X5_wouldCarry 7 rfl) rfl rfl ?_
  obtain ⟨p5, e0, h⟩ := Option.bind_eq_some_iff.mp h
  refine r_getR (dc_X5_wouldCarry 8 rfl) fl_RX5_40 e0 ?_
  obtain ⟨p6, e0, h⟩ := Option.bind_eq_some_iff.mp h
  refine r_getR (dc_X5_wouldCarry 9 rfl) fl_RX5_50 e0 ?_
  refine r_iload_n (dc_X5_wouldCarry 10 rfl) rfl rfl ?_
  refine r_iload_n (dc_X5_wouldCarry 11 rfl) rfl rfl ?_
  refine r_aload_n (dc_X5_wouldCarry 12 rfl) rfl rfl ?_
  obtain ⟨p7, e0, h⟩ := Option.bind_eq_some_iff.mp h
  refine r_getR (dc_X5_wouldCarry 13 rfl) fl_RX5_40 e0 ?_
  obtain ⟨x8, e0, h⟩ := Option.bind_eq_some_iff.mp h
  refine r_getI (dc_X5_wouldCarry 14 rfl) fl_RX5_159 e0 ?_
  obtain ⟨s9, e0, h⟩ := Option.bind_eq_some_iff.mp h
  refine r_callV (dc_X5_wouldCarry 15 rfl) mv_X3_compose ml_RX5_162 (As := [.ref p4, .ref p6, .int xa1, .int xa2, .int x8]) (t_X3_compose (d := d - 1) hl (by omega) e0) (by omega) rfl (Nat.le_of_ble_eq_true rfl) ?_
  refine r_iload_n (dc_X5_wouldCarry 16 rfl) rfl rfl ?_
  refine r_if_ne (dc_X5_wouldCarry 17 rfl) (tgt := 44) (by decide) (fun c0 => ?_) (fun c0 => ?_)
  · rw [if_neg c0] at h
    refine r_iload_n (dc_X5_wouldCarry 22 rfl) rfl rfl ?_
    refine r_iconst (dc_X5_wouldCarry 23 rfl) kiconst_1 ?_
    refine r_icmp_ne (dc_X5_wouldCarry 24 rfl) (tgt := 72) (by decide) (fun c0 => ?_) (fun c0 => ?_)
    · rw [if_neg c0] at h
      refine r_aload_n (dc_X5_wouldCarry 36 rfl) rfl rfl ?_
      obtain ⟨p10, e0, h⟩ := Option.bind_eq_some_iff.mp h
      refine r_getR (dc_X5_wouldCarry 37 rfl) fl_RX5_29 e0 ?_
      refine r_aload_n (dc_X5_wouldCarry 38 rfl) rfl rfl ?_
      obtain ⟨p11, e0, h⟩ := Option.bind_eq_some_iff.mp h
      refine r_getR (dc_X5_wouldCarry 39 rfl) fl_RX5_40 e0 ?_
      obtain ⟨p12, e0, h⟩ := Option.bind_eq_some_iff.mp h
      refine r_getR (dc_X5_wouldCarry 40 rfl) fl_RX5_66 e0 ?_
      refine r_iload_n (dc_X5_wouldCarry 41 rfl) rfl rfl ?_
      obtain ⟨p13, e0, h⟩ := Option.bind_eq_some_iff.mp h
      refine r_aaldR (dc_X5_wouldCarry 42 rfl) (kd := 4) rfl e0 ?_
      obtain ⟨p14, e0, h⟩ := Option.bind_eq_some_iff.mp h
      refine r_getR (dc_X5_wouldCarry 43 rfl) fl_RX5_69 e0 ?_
      obtain ⟨s15, e0, h⟩ := Option.bind_eq_some_iff.mp h
      refine r_callV (dc_X5_wouldCarry 44 rfl) mv_X1_copyOf ml_RX5_140 (As := [.ref p14]) (t_X1_copyOf (d := d - 1) hl (by omega) e0) (by omega) rfl (Nat.le_of_ble_eq_true rfl) ?_
      refine r_aload_n (dc_X5_wouldCarry 45 rfl) rfl rfl ?_
      obtain ⟨p16, e0, h⟩ := Option.bind_eq_some_iff.mp h
      refine r_getR (dc_X5_wouldCarry 46 rfl) fl_RX5_29 e0 ?_
      refine r_aload_n (dc_X5_wouldCarry 47 rfl) rfl rfl ?_
      obtain ⟨p17, e0, h⟩ := Option.bind_eq_some_iff.mp h
      refine r_getR (dc_X5_wouldCarry 48 rfl) fl_RX5_40 e0 ?_
      obtain ⟨p18, e0, h⟩ := Option.bind_eq_some_iff.mp h
      refine r_getR (dc_X5_wouldCarry 49 rfl) fl_RX5_66 e0 ?_
      refine r_iload_n (dc_X5_wouldCarry 50 rfl) rfl rfl ?_
      obtain ⟨p19, e0, h⟩ := Option.bind_eq_some_iff.mp h
      refine r_aaldR (dc_X5_wouldCarry 51 rfl) (kd := 4) rfl e0 ?_
      obtain ⟨p20, e0, h⟩ := Option.bind_eq_some_iff.mp h
      refine r_getR (dc_X5_wouldCarry 52 rfl) fl_RX5_69 e0 ?_
      obtain ⟨s21, e0, h⟩ := Option.bind_eq_some_iff.mp h
      refine r_callV (dc_X5_wouldCarry 53 rfl) mv_X1_removeAll ml_RX5_153 (As := [.ref p20]) (t_X1_removeAll (d := d - 1) hl (by omega) e0) (by omega) rfl (Nat.le_of_ble_eq_true rfl) ?_
      refine r_aload_n (dc_X5_wouldCarry 54 rfl) rfl rfl ?_
      obtain ⟨p22, e0, h⟩ := Option.bind_eq_some_iff.mp h
      refine r_getR (dc_X5_wouldCarry 55 rfl) fl_RX5_29 e0 ?_
      refine r_aload_n (dc_X5_wouldCarry 56 rfl) rfl rfl ?_
      obtain ⟨p23, e0, h⟩ := Option.bind_eq_some_iff.mp h
      refine r_getR (dc_X5_wouldCarry 57 rfl) fl_RX5_25 e0 ?_
      obtain ⟨p24, e0, h⟩ := Option.bind_eq_some_iff.mp h
      refine r_getR (dc_X5_wouldCarry 58 rfl) fl_RX5_134 e0 ?_
      obtain ⟨s25, e0, h⟩ := Option.bind_eq_some_iff.mp h
      refine r_callV (dc_X5_wouldCarry 59 rfl) mv_X1_removeAll ml_RX5_153 (As := [.ref p24]) (t_X1_removeAll (d := d - 1) hl (by omega) e0) (by omega) rfl (Nat.le_of_ble_eq_true rfl) ?_
      refine r_aload_n (dc_X5_wouldCarry 60 rfl) rfl rfl ?_
      obtain ⟨p26, e0, h⟩ := Option.bind_eq_some_iff.mp h
      refine r_getR (dc_X5_wouldCarry 61 rfl) fl_RX5_29 e0 ?_
      obtain ⟨x27, e0, h⟩ := Option.bind_eq_some_iff.mp h
      refine r_callV (dc_X5_wouldCarry 62 rfl) mv_X1_size ml_RX5_107 (As := []) (t_X1_size (d := d - 1) hl (by omega) e0) (by omega) rfl (Nat.le_of_ble_eq_true rfl) ?_
      cases h
      exact r_ireturn (dc_X5_wouldCarry 63 rfl) rfl
    · rw [if_pos c0] at h
      refine r_aload_n (dc_X5_wouldCarry 25 rfl) rfl rfl ?_
      obtain ⟨p28, e0, h⟩ := Option.bind_eq_some_iff.mp h
      refine r_getR (dc_X5_wouldCarry 26 rfl) fl_RX5_25 e0 ?_
      obtain ⟨p29, e0, h⟩ := Option.bind_eq_some_iff.mp h
      refine r_getR (dc_X5_wouldCarry 27 rfl) fl_RX5_134 e0 ?_
      refine r_aload_n (dc_X5_wouldCarry 28 rfl) rfl rfl ?_
      obtain ⟨p30, e0, h⟩ := Option.bind_eq_some_iff.mp h
      refine r_getR (dc_X5_wouldCarry 29 rfl) fl_RX5_40 e0 ?_
      obtain ⟨p31, e0, h⟩ := Option.bind_eq_some_iff.mp h
      refine r_getR (dc_X5_wouldCarry 30 rfl) fl_RX5_66 e0 ?_
      refine r_iload_n (dc_X5_wouldCarry 31 rfl) rfl rfl ?_
      obtain ⟨p32, e0, h⟩ := Option.bind_eq_some_iff.mp h
      refine r_aaldR (dc_X5_wouldCarry 32 rfl) (kd := 4) rfl e0 ?_
      obtain ⟨p33, e0, h⟩ := Option.bind_eq_some_iff.mp h
      refine r_getR (dc_X5_wouldCarry 33 rfl) fl_RX5_69 e0 ?_
      obtain ⟨x34, e0, h⟩ := Option.bind_eq_some_iff.mp h
      refine r_callV (dc_X5_wouldCarry 34 rfl) mv_X1_shared ml_RX5_167 (As := [.ref p33]) (t_X1_shared (d := d - 1) hl (by omega) e0) (by omega) rfl (Nat.le_of_ble_eq_true rfl) ?_
      cases h
      exact r_ireturn (dc_X5_wouldCarry 35 rfl) rfl
  · rw [if_pos c0] at h
    refine r_aload_n (dc_X5_wouldCarry 18 rfl) rfl rfl ?_
    obtain ⟨p35, e0, h⟩ := Option.bind_eq_some_iff.mp h
    refine r_getR (dc_X5_wouldCarry 19 rfl) fl_RX5_25 e0 ?_
    obtain ⟨x36, e0, h⟩ := Option.bind_eq_some_iff.mp h
    refine r_getI (dc_X5_wouldCarry 20 rfl) fl_RX5_166 e0 ?_
    cases h
    exact r_ireturn (dc_X5_wouldCarry 21 rfl) rfl
