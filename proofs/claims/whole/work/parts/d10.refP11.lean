theorem l_X10_firstOverstated_L2 {G : Gx} {d : Nat} (hl : G.1.stackTraces = false) (hd : 4 ≤ d) {sL : Sto} {pL0 : Nat} {r : Int32} {k76 : Option Int32}
    (hk76 : k76  = some r → J G d m_X10_firstOverstated 76 [] [] sL (.inl (some (.int r))) sL)
  : ∀ (f : Nat) (xL1 : Int32), F_X10_firstOverstated_L2 sL pL0 f xL1 k76 = some r → J G d m_X10_firstOverstated 2 [(0, .ref pL0), (1, .int xL1)] [] sL (.inl (some (.int r))) sL := by
  intro f
  induction f with
  | zero => intro xL1 h; rw [F_X10_firstOverstated_L2] at h; cases h
  | succ f ih =>
    intro xL1 h
    rw [F_X10_firstOverstated_L2] at h
    refine r_iload_n (dc_X10_firstOverstated 2 rfl) rfl rfl ?_
    refine r_aload_n (dc_X10_firstOverstated 3 rfl) rfl rfl ?_
    obtain ⟨p1, e0, h⟩ := Option.bind_eq_some_iff.mp h
    refine r_getR (dc_X10_firstOverstated 4 rfl) fl_RX10_14 e0 ?_
    refine r_iconst (dc_X10_firstOverstated 5 rfl) kiconst_0 ?_
    obtain ⟨x2, e0, h⟩ := Option.bind_eq_some_iff.mp h
    refine r_iald (dc_X10_firstOverstated 6 rfl) e0 ?_
    refine r_icmp_ge (dc_X10_firstOverstated 7 rfl) (tgt := 76) (by decide) (fun c0 => ?_) (fun c0 => ?_)
    · rw [if_pos c0] at h
      refine r_pick [] (lo' := []) rfl ?_
      exact hk76  h
    · rw [if_neg c0] at h
      refine r_iconst (dc_X10_firstOverstated 8 rfl) kiconst_0 ?_
      refine r_istore_n (dc_X10_firstOverstated 9 rfl) rfl (by decide) (lo' := [(2, .int (0 : Int32)), (0, .ref pL0), (1, .int xL1)]) rfl ?_
      refine r_pick [1, 2, 0] (lo' := [(0, .ref pL0), (1, .int xL1), (2, .int (0 : Int32))]) rfl ?_
      refine l_X10_firstOverstated_L14 hl hd (hk70 := ?_) fu _ h
      · intro h
        refine r_iinc (dc_X10_firstOverstated 44 rfl) rfl (kinc_1 _) (by decide) (lo' := [(1, .int (xL1 + (1 : Int32))), (0, .ref pL0)]) rfl ?_
        refine r_goto (dc_X10_firstOverstated 45 rfl) (tgt := 2) (by decide) ?_
        refine r_pick [1, 0] (lo' := [(0, .ref pL0), (1, .int (xL1 + (1 : Int32)))]) rfl ?_
        exact ih _ h
theorem t_X10_firstOverstated {G : Gx} {d : Nat} (hl : G.1.stackTraces = false) (hd : 4 ≤ d) {σ : Sto} {a0 : Nat} {r : Int32} (h : F_X10_firstOverstated σ a0 = some r) : Mi G d m_X10_firstOverstated 10 a0 [] σ (.inl (some (.int r))) σ := by
  rw [F_X10_firstOverstated] at h
  obtain ⟨hg, h⟩ := chk_some h
  refine ⟨J.toMt (lo := [(0, .ref a0)]) pn_RX10 rfl hl (Nat.le_of_ble_eq_true rfl) rfl ?_, hg⟩
  refine r_iconst (dc_X10_firstOverstated 0 rfl) kiconst_0 ?_
  refine r_istore_n (dc_X10_firstOverstated 1 rfl) rfl (by decide) (lo' := [(1, .int (0 : Int32)), (0, .ref a0)]) rfl ?_
  refine r_pick [1, 0] (lo' := [(0, .ref a0), (1, .int (0 : Int32))]) rfl ?_
  refine l_X10_firstOverstated_L2 hl hd (hk76 := ?_) fu _ h
  · intro h
    refine r_iconst (dc_X10_firstOverstated 46 rfl) kiconst_m1 ?_
    cases h
    exact r_ireturn (dc_X10_firstOverstated 47 rfl) rfl
theorem l_X10_lostAll_L4 {G : Gx} {d : Nat} (hl : G.1.stackTraces = false) (hd : 6 ≤ d) {pL0 : Nat} {r : (Int32 × Sto)} {k28 : Int32 → Sto → Option (Int32 × Sto)}
    (hk28 : ∀ (xL1 : Int32) (sL : Sto), k28 xL1 sL = some r → J G d m_X10_lostAll 28 [(1, .int xL1)] [] sL (.inl (some (.int r.1))) r.2)
  : ∀ (f : Nat) (xL1 : Int32) (xL2 : Int32) (sL : Sto), F_X10_lostAll_L4 pL0 f xL1 xL2 sL k28 = some r → J G d m_X10_lostAll 4 [(0, .ref pL0), (1, .int xL1), (2, .int xL2)] [] sL (.inl (some (.int r.1))) r.2 := by
  intro f
  induction f with
  | zero => intro xL1 xL2 sL h; rw [F_X10_lostAll_L4] at h; cases h
  | succ f ih =>
    intro xL1 xL2 sL h
    rw [F_X10_lostAll_L4] at h
    refine r_iload_n (dc_X10_lostAll 4 rfl) rfl rfl ?_
    refine r_aload_n (dc_X10_lostAll 5 rfl) rfl rfl ?_
    obtain ⟨p1, e0, h⟩ := Option.bind_eq_some_iff.mp h
    refine r_getR (dc_X10_lostAll 6 rfl) fl_RX10_14 e0 ?_
    refine r_iconst (dc_X10_lostAll 7 rfl) kiconst_0 ?_
    obtain ⟨x2, e0, h⟩ := Option.bind_eq_some_iff.mp h
    refine r_iald (dc_X10_lostAll 8 rfl) e0 ?_
    refine r_icmp_ge (dc_X10_lostAll 9 rfl) (tgt := 28) (by decide) (fun c0 => ?_) (fun c0 => ?_)
    · rw [if_pos c0] at h
      refine r_pick [1] (lo' := [(1, .int xL1)]) rfl ?_
      exact hk28 _ _ h
    · rw [if_neg c0] at h
      refine r_iload_n (dc_X10_lostAll 10 rfl) rfl rfl ?_
      refine r_aload_n (dc_X10_lostAll 11 rfl) rfl rfl ?_
      refine r_iload_n (dc_X10_lostAll 12 rfl) rfl rfl ?_
      obtain ⟨x4, s3, e0, h⟩ := wb_some h
      refine r_callV (dc_X10_lostAll 13 rfl) mv_X10_lostTo ml_RX10_293 (As := [.int xL2]) (t_X10_lostTo (d := d - 1) hl (by omega) e0) (by omega) rfl (Nat.le_of_ble_eq_true rfl) ?_
      refine r_iadd (dc_X10_lostAll 14 rfl) ?_
      refine r_istore_n (dc_X10_lostAll 15 rfl) rfl (by decide) (lo' := [(1, .int (xL1 + x4)), (0, .ref pL0), (2, .int xL2)]) rfl ?_
      refine r_iinc (dc_X10_lostAll 16 rfl) rfl (kinc_1 _) (by decide) (lo' := [(2, .int (xL2 + (1 : Int32))), (1, .int (xL1 + x4)), (0, .ref pL0)]) rfl ?_
      refine r_goto (dc_X10_lostAll 17 rfl) (tgt := 4) (by decide) ?_
      refine r_pick [2, 1, 0] (lo' := [(0, .ref pL0), (1, .int (xL1 + x4)), (2, .int (xL2 + (1 : Int32)))]) rfl ?_
      exact ih _ _ _ h
theorem t_X10_lostAll {G : Gx} {d : Nat} (hl : G.1.stackTraces = false) (hd : 6 ≤ d) {σ : Sto} {a0 : Nat} {r : (Int32 × Sto)} (h : F_X10_lostAll σ a0 = some r) : Mi G d m_X10_lostAll 10 a0 [] σ (.inl (some (.int r.1))) r.2 := by
  rw [F_X10_lostAll] at h
  obtain ⟨hg, h⟩ := chk_some h
  refine ⟨J.toMt (lo := [(0, .ref a0)]) pn_RX10 rfl hl (Nat.le_of_ble_eq_true rfl) rfl ?_, hg⟩
  refine r_iconst (dc_X10_lostAll 0 rfl) kiconst_0 ?_
  refine r_istore_n (dc_X10_lostAll 1 rfl) rfl (by decide) (lo' := [(1, .int (0 : Int32)), (0, .ref a0)]) rfl ?_
  refine r_iconst (dc_X10_lostAll 2 rfl) kiconst_0 ?_
  refine r_istore_n (dc_X10_lostAll 3 rfl) rfl (by decide) (lo' := [(2, .int (0 : Int32)), (1, .int (0 : Int32)), (0, .ref a0)]) rfl ?_
  refine r_pick [2, 1, 0] (lo' := [(0, .ref a0), (1, .int (0 : Int32)), (2, .int (0 : Int32))]) rfl ?_
  refine l_X10_lostAll_L4 hl hd (hk28 := ?_) fu _ _ _ h
  · intro x5 s6 h
    refine r_iload_n (dc_X10_lostAll 18 rfl) rfl rfl ?_
    cases h
    exact r_ireturn (dc_X10_lostAll 19 rfl) rfl
theorem l_X10_areViewsLike_L14 {G : Gx} {d : Nat} (hl : G.1.stackTraces = false) (hd : 1 ≤ d) {sL : Sto} {pL0 : Nat} {xL1 : Int32} {r : Int32} {k58 : Option Int32}
    (hk58 : k58  = some r → J G d m_X10_areViewsLike 58 [(0, .ref pL0), (1, .int xL1)] [] sL (.inl (some (.int r))) sL)
  : ∀ (f : Nat) (xL2 : Int32), F_X10_areViewsLike_L14 sL pL0 xL1 f xL2 k58 = some r → J G d m_X10_areViewsLike 14 [(0, .ref pL0), (1, .int xL1), (2, .int xL2)] [] sL (.inl (some (.int r))) sL := by
  intro f
  induction f with
  | zero => intro xL2 h; rw [F_X10_areViewsLike_L14] at h; cases h
  | succ f ih =>
    intro xL2 h
    rw [F_X10_areViewsLike_L14] at h
    refine r_iload_n (dc_X10_areViewsLike 10 rfl) rfl rfl ?_
    refine r_iconst (dc_X10_areViewsLike 11 rfl) kiconst_4 ?_
    refine r_icmp_ge (dc_X10_areViewsLike 12 rfl) (tgt := 58) (by decide) (fun c0 => ?_) (fun c0 => ?_)
    · rw [if_pos c0] at h
      refine r_pick [0, 1] (lo' := [(0, .ref pL0), (1, .int xL1)]) rfl ?_
      exact hk58  h
    · rw [if_neg c0] at h
      refine r_aload_n (dc_X10_areViewsLike 13 rfl) rfl rfl ?_
      obtain ⟨p3, e0, h⟩ := Option.bind_eq_some_iff.mp h
      refine r_getR (dc_X10_areViewsLike 14 rfl) fl_RX10_14 e0 ?_
      refine r_iload_n (dc_X10_areViewsLike 15 rfl) rfl rfl ?_
      obtain ⟨x4, e0, h⟩ := Option.bind_eq_some_iff.mp h
      refine r_callS (dc_X10_areViewsLike 16 rfl) ms_X10_stateOf ml_RX10_111 (As := [.int xL1]) (t_X10_stateOf (d := d - 1) hl (by omega) e0) (by omega) rfl (Nat.le_of_ble_eq_true rfl) ?_
      refine r_bipush (dc_X10_areViewsLike 17 rfl) kbipush_29 ?_
      refine r_iadd (dc_X10_areViewsLike 18 rfl) ?_
      refine r_iload_n (dc_X10_areViewsLike 19 rfl) rfl rfl ?_
      refine r_iadd (dc_X10_areViewsLike 20 rfl) ?_
      obtain ⟨x5, e0, h⟩ := Option.bind_eq_some_iff.mp h
      refine r_iald (dc_X10_areViewsLike 21 rfl) e0 ?_
      refine r_aload_n (dc_X10_areViewsLike 22 rfl) rfl rfl ?_
      obtain ⟨p6, e0, h⟩ := Option.bind_eq_some_iff.mp h
      refine r_getR (dc_X10_areViewsLike 23 rfl) fl_RX10_14 e0 ?_
      refine r_iconst (dc_X10_areViewsLike 24 rfl) kiconst_0 ?_
      obtain ⟨x7, e0, h⟩ := Option.bind_eq_some_iff.mp h
      refine r_callS (dc_X10_areViewsLike 25 rfl) ms_X10_stateOf ml_RX10_111 (As := [.int (0 : Int32)]) (t_X10_stateOf (d := d - 1) hl (by omega) e0) (by omega) rfl (Nat.le_of_ble_eq_true rfl) ?_
      refine r_bipush (dc_X10_areViewsLike 26 rfl) kbipush_29 ?_
      refine r_iadd (dc_X10_areViewsLike 27 rfl) ?_
      refine r_iload_n (dc_X10_areViewsLike 28 rfl) rfl rfl ?_
      refine r_iadd (dc_X10_areViewsLike 29 rfl) ?_
      obtain ⟨x8, e0, h⟩ := Option.bind_eq_some_iff.mp h
      refine r_iald (dc_X10_areViewsLike 30 rfl) e0 ?_
      refine r_icmp_eq (dc_X10_areViewsLike 31 rfl) (tgt := 52) (by decide) (fun c0 => ?_) (fun c0 => ?_)
      · rw [if_pos c0] at h
        refine r_iinc (dc_X10_areViewsLike 34 rfl) rfl (kinc_1 _) (by decide) (lo' := [(2, .int (xL2 + (1 : Int32))), (0, .ref pL0), (1, .int xL1)]) rfl ?_
        refine r_goto (dc_X10_areViewsLike 35 rfl) (tgt := 14) (by decide) ?_
        refine r_pick [1, 2, 0] (lo' := [(0, .ref pL0), (1, .int xL1), (2, .int (xL2 + (1 : Int32)))]) rfl ?_
        exact ih _ h
      · rw [if_neg c0] at h
        refine r_iconst (dc_X10_areViewsLike 32 rfl) kiconst_0 ?_
        cases h
        exact r_zreturn (dc_X10_areViewsLike 33 rfl) rfl (Or.inl rfl)
theorem l_X10_areViewsLike_L2 {G : Gx} {d : Nat} (hl : G.1.stackTraces = false) (hd : 1 ≤ d) {sL : Sto} {pL0 : Nat} {r : Int32} {k64 : Option Int32}
    (hk64 : k64  = some r → J G d m_X10_areViewsLike 64 [] [] sL (.inl (some (.int r))) sL)
  : ∀ (f : Nat) (xL1 : Int32), F_X10_areViewsLike_L2 sL pL0 f xL1 k64 = some r → J G d m_X10_areViewsLike 2 [(0, .ref pL0), (1, .int xL1)] [] sL (.inl (some (.int r))) sL := by
  intro f
  induction f with
  | zero => intro xL1 h; rw [F_X10_areViewsLike_L2] at h; cases h
  | succ f ih =>
    intro xL1 h
    rw [F_X10_areViewsLike_L2] at h
    refine r_iload_n (dc_X10_areViewsLike 2 rfl) rfl rfl ?_
    refine r_aload_n (dc_X10_areViewsLike 3 rfl) rfl rfl ?_
    obtain ⟨p1, e0, h⟩ := Option.bind_eq_some_iff.mp h
    refine r_getR (dc_X10_areViewsLike 4 rfl) fl_RX10_14 e0 ?_
    refine r_iconst (dc_X10_areViewsLike 5 rfl) kiconst_0 ?_
    obtain ⟨x2, e0, h⟩ := Option.bind_eq_some_iff.mp h
    refine r_iald (dc_X10_areViewsLike 6 rfl) e0 ?_
    refine r_icmp_ge (dc_X10_areViewsLike 7 rfl) (tgt := 64) (by decide) (fun c0 => ?_) (fun c0 => ?_)
    · rw [if_pos c0] at h
      refine r_pick [] (lo' := []) rfl ?_
      exact hk64  h
    · rw [if_neg c0] at h
      refine r_iconst (dc_X10_areViewsLike 8 rfl) kiconst_0 ?_
      refine r_istore_n (dc_X10_areViewsLike 9 rfl) rfl (by decide) (lo' := [(2, .int (0 : Int32)), (0, .ref pL0), (1, .int xL1)]) rfl ?_
      refine r_pick [1, 2, 0] (lo' := [(0, .ref pL0), (1, .int xL1), (2, .int (0 : Int32))]) rfl ?_
      refine l_X10_areViewsLike_L14 hl hd (hk58 := ?_) fu _ h
      · intro h
        refine r_iinc (dc_X10_areViewsLike 36 rfl) rfl (kinc_1 _) (by decide) (lo' := [(1, .int (xL1 + (1 : Int32))), (0, .ref pL0)]) rfl ?_
        refine r_goto (dc_X10_areViewsLike 37 rfl) (tgt := 2) (by decide) ?_
        refine r_pick [1, 0] (lo' := [(0, .ref pL0), (1, .int (xL1 + (1 : Int32)))]) rfl ?_
        exact ih _ h
theorem t_X10_areViewsLike {G : Gx} {d : Nat} (hl : G.1.stackTraces = false) (hd : 1 ≤ d) {σ : Sto} {a0 : Nat} {r : Int32} (h : F_X10_areViewsLike σ a0 = some r) : Mi G d m_X10_areViewsLike 10 a0 [] σ (.inl (some (.int r))) σ := by
  rw [F_X10_areViewsLike] at h
  obtain ⟨hg, h⟩ := chk_some h
  refine ⟨J.toMt (lo := [(0, .ref a0)]) pn_RX10 rfl hl (Nat.le_of_ble_eq_true rfl) rfl ?_, hg⟩
  refine r_iconst (dc_X10_areViewsLike 0 rfl) kiconst_1 ?_
  refine r_istore_n (dc_X10_areViewsLike 1 rfl) rfl (by decide) (lo' := [(1, .int (1 : Int32)), (0, .ref a0)]) rfl ?_
  refine r_pick [1, 0] (lo' := [(0, .ref a0), (1, .int (1 : Int32))]) rfl ?_
  refine l_X10_areViewsLike_L2 hl hd (hk64 := ?_) fu _ h
  · intro h
    refine r_iconst (dc_X10_areViewsLike 38 rfl) kiconst_1 ?_
    cases h
    exact r_zreturn (dc_X10_areViewsLike 39 rfl) rfl (Or.inr rfl)
theorem l_X10_cutMany_L4 {G : Gx} {d : Nat} (hl : G.1.stackTraces = false) (hd : 0 ≤ d) {sL : Sto} {pL0 : Nat} {r : Int32} {k30 : Int32 → Option Int32}
    (hk30 : ∀ (xL1 : Int32), k30 xL1 = some r → J G d m_X10_cutMany 30 [(1, .int xL1)] [] sL (.inl (some (.int r))) sL)
  : ∀ (f : Nat) (xL1 : Int32) (xL2 : Int32), F_X10_cutMany_L4 sL pL0 f xL1 xL2 k30 = some r → J G d m_X10_cutMany 4 [(0, .ref pL0), (1, .int xL1), (2, .int xL2)] [] sL (.inl (some (.int r))) sL := by
  intro f
  induction f with
  | zero => intro xL1 xL2 h; rw [F_X10_cutMany_L4] at h; cases h
  | succ f ih =>
    intro xL1 xL2 h
    rw [F_X10_cutMany_L4] at h
    refine r_iload_n (dc_X10_cutMany 4 rfl) rfl rfl ?_
    refine r_bipush (dc_X10_cutMany 5 rfl) kbipush_25 ?_
    refine r_icmp_ge (dc_X10_cutMany 6 rfl) (tgt := 30) (by decide) (fun c0 => ?_) (fun c0 => ?_)
    · rw [if_pos c0] at h
      refine r_pick [1] (lo' := [(1, .int xL1)]) rfl ?_
      exact hk30 _ h
    · rw [if_neg c0] at h
      refine r_iload_n (dc_X10_cutMany 7 rfl) rfl rfl ?_
      refine r_aload_n (dc_X10_cutMany 8 rfl) rfl rfl ?_
      obtain ⟨p1, e0, h⟩ := Option.bind_eq_some_iff.mp h
      refine r_getR (dc_X10_cutMany 9 rfl) fl_RX10_14 e0 ?_
      refine r_bipush (dc_X10_cutMany 10 rfl) kbipush_7 ?_
      obtain ⟨x2, e0, h⟩ := Option.bind_eq_some_iff.mp h
      refine r_iald (dc_X10_cutMany 11 rfl) e0 ?_
      refine r_iload_n (dc_X10_cutMany 12 rfl) rfl rfl ?_
      refine r_ishr (dc_X10_cutMany 13 rfl) ?_
      refine r_iconst (dc_X10_cutMany 14 rfl) kiconst_1 ?_
      refine r_iand (dc_X10_cutMany 15 rfl) ?_
      refine r_iadd (dc_X10_cutMany 16 rfl) ?_
      refine r_istore_n (dc_X10_cutMany 17 rfl) rfl (by decide) (lo' := [(1, .int (xL1 + ((x2 >>> (xL2 &&& 31)) &&& (1 : Int32)))), (0, .ref pL0), (2, .int xL2)]) rfl ?_
      refine r_iinc (dc_X10_cutMany 18 rfl) rfl (kinc_1 _) (by decide) (lo' := [(2, .int (xL2 + (1 : Int32))), (1, .int (xL1 + ((x2 >>> (xL2 &&& 31)) &&& (1 : Int32)))), (0, .ref pL0)]) rfl ?_
      refine r_goto (dc_X10_cutMany 19 rfl) (tgt := 4) (by decide) ?_
      refine r_pick [2, 1, 0] (lo' := [(0, .ref pL0), (1, .int (xL1 + ((x2 >>> (xL2 &&& 31)) &&& (1 : Int32)))), (2, .int (xL2 + (1 : Int32)))]) rfl ?_
      exact ih _ _ h
theorem t_X10_cutMany {G : Gx} {d : Nat} (hl : G.1.stackTraces = false) (hd : 0 ≤ d) {σ : Sto} {a0 : Nat} {r : Int32} (h : F_X10_cutMany σ a0 = some r) : Mi G d m_X10_cutMany 10 a0 [] σ (.inl (some (.int r))) σ := by
  rw [F_X10_cutMany] at h
  obtain ⟨hg, h⟩ := chk_some h
  refine ⟨J.toMt (lo := [(0, .ref a0)]) pn_RX10 rfl hl (Nat.le_of_ble_eq_true rfl) rfl ?_, hg⟩
  refine r_iconst (dc_X10_cutMany 0 rfl) kiconst_0 ?_
  refine r_istore_n (dc_X10_cutMany 1 rfl) rfl (by decide) (lo' := [(1, .int (0 : Int32)), (0, .ref a0)]) rfl ?_
  refine r_iconst (dc_X10_cutMany 2 rfl) kiconst_0 ?_
  refine r_istore_n (dc_X10_cutMany 3 rfl) rfl (by decide) (lo' := [(2, .int (0 : Int32)), (1, .int (0 : Int32)), (0, .ref a0)]) rfl ?_
  refine r_pick [2, 1, 0] (lo' := [(0, .ref a0), (1, .int (0 : Int32)), (2, .int (0 : Int32))]) rfl ?_
  refine l_X10_cutMany_L4 hl hd (hk30 := ?_) fu _ _ h
  · intro x3 h
    refine r_iload_n (dc_X10_cutMany 20 rfl) rfl rfl ?_
    cases h
    exact r_ireturn (dc_X10_cutMany 21 rfl) rfl
theorem t_X10_count {G : Gx} {d : Nat} (hl : G.1.stackTraces = false) (hd : 7 ≤ d) {σ : Sto} {a0 : Nat} {xa1 : Int32} {r : (Int32 × Sto)} (h : F_X10_count σ a0 xa1 = some r) : Mi G d m_X10_count 10 a0 [.int xa1] σ (.inl (some (.int r.1))) r.2 := by
  rw [F_X10_count] at h
  obtain ⟨hg, h⟩ := chk_some h
  refine ⟨J.toMt (lo := [(0, .ref a0), (1, .int xa1)]) pn_RX10 rfl hl (Nat.le_of_ble_eq_true rfl) rfl ?_, hg⟩
  refine r_aload_n (dc_X10_count 0 rfl) rfl rfl ?_
  refine r_iconst (dc_X10_count 1 rfl) kiconst_0 ?_
  obtain ⟨s1, e0, h⟩ := Option.bind_eq_some_iff.mp h
  refine r_put (dc_X10_count 2 rfl) pl_RX10_1 rfl e0 ?_
  refine r_aload_n (dc_X10_count 3 rfl) rfl rfl ?_
  refine r_iconst (dc_X10_count 4 rfl) kiconst_0 ?_
  obtain ⟨s2, e0, h⟩ := Option.bind_eq_some_iff.mp h
  refine r_put (dc_X10_count 5 rfl) pl_RX10_59 rfl e0 ?_
  refine r_iload_n (dc_X10_count 6 rfl) rfl rfl ?_
  refine r_i2l (dc_X10_count 7 rfl) ?_
  refine r_lconst (dc_X10_count 8 rfl) klconst_0 ?_
  refine r_ldc2 (dc_X10_count 9 rfl) ck_RX10_97 ?_
  obtain ⟨x3, e0, h⟩ := Option.bind_eq_some_iff.mp h
  refine r_callS (dc_X10_count 10 rfl) ms_X10_isIn ml_RX10_89 (As := [.long xa1.toInt64, .long (0 : Int64), .long (2 : Int64)]) (t_X10_isIn (d := d - 1) hl (by omega) e0) (by omega) rfl (Nat.le_of_ble_eq_true rfl) ?_
  refine r_if_eq (dc_X10_count 11 rfl) (tgt := 29) (by decide) (fun c0 => ?_) (fun c0 => ?_)
  · rw [if_pos c0] at h
    refine r_iload_n (dc_X10_count 17 rfl) rfl rfl ?_
    refine r_i2l (dc_X10_count 18 rfl) ?_
    refine r_ldc2 (dc_X10_count 19 rfl) ck_RX10_322 ?_
    refine r_ldc2 (dc_X10_count 20 rfl) ck_RX10_383 ?_
    obtain ⟨x4, e0, h⟩ := Option.bind_eq_some_iff.mp h
    refine r_callS (dc_X10_count 21 rfl) ms_X10_isIn ml_RX10_89 (As := [.long xa1.toInt64, .long (4 : Int64), .long (6 : Int64)]) (t_X10_isIn (d := d - 1) hl (by omega) e0) (by omega) rfl (Nat.le_of_ble_eq_true rfl) ?_
    refine r_if_eq (dc_X10_count 22 rfl) (tgt := 54) (by decide) (fun c0 => ?_) (fun c0 => ?_)
    · rw [if_pos c0] at h
      refine r_iload_n (dc_X10_count 32 rfl) rfl rfl ?_
      by_cases c0 : xa1 = (3 : Int32)
      · rw [if_pos c0] at h
        refine r_tsInE c0 (dc_X10_count 33 rfl) (tgt := 112) (off := 57) (by decide) (by decide) (by decide) (by decide) ?_
        refine r_aload_n (dc_X10_count 34 rfl) rfl rfl ?_
        obtain ⟨x5, e0, h⟩ := Option.bind_eq_some_iff.mp h
        refine r_callV (dc_X10_count 35 rfl) mv_X10_waitingAll ml_RX10_385 (As := []) (t_X10_waitingAll (d := d - 1) hl (by omega) e0) (by omega) rfl (Nat.le_of_ble_eq_true rfl) ?_
        cases h
        exact r_ireturn (dc_X10_count 36 rfl) rfl
      rw [if_neg c0] at h
      by_cases c1 : xa1 = (4 : Int32)
      · rw [if_pos c1] at h
        refine r_tsInE c1 (dc_X10_count 33 rfl) (tgt := 160) (off := 105) (by decide) (by decide) (by decide) (by decide) ?_
        refine r_iconst (dc_X10_count 63 rfl) kiconst_m1 ?_
        cases h
        exact r_ireturn (dc_X10_count 64 rfl) rfl
      rw [if_neg c1] at h
      by_cases c2 : xa1 = (5 : Int32)
      · rw [if_pos c2] at h
        refine r_tsInE c2 (dc_X10_count 33 rfl) (tgt := 160) (off := 105) (by decide) (by decide) (by decide) (by decide) ?_
        refine r_iconst (dc_X10_count 63 rfl) kiconst_m1 ?_
        cases h
        exact r_ireturn (dc_X10_count 64 rfl) rfl
      rw [if_neg c2] at h
      by_cases c3 : xa1 = (6 : Int32)
      · rw [if_pos c3] at h
        refine r_tsInE c3 (dc_X10_count 33 rfl) (tgt := 160) (off := 105) (by decide) (by decide) (by decide) (by decide) ?_
        refine r_iconst (dc_X10_count 63 rfl) kiconst_m1 ?_
        cases h
        exact r_ireturn (dc_X10_count 64 rfl) rfl
      rw [if_neg c3] at h
      by_cases c4 : xa1 = (7 : Int32)
      · rw [if_pos c4] at h
        refine r_tsInE c4 (dc_X10_count 33 rfl) (tgt := 117) (off := 62) (by decide) (by decide) (by decide) (by decide) ?_
        refine r_aload_n (dc_X10_count 37 rfl) rfl rfl ?_
        obtain ⟨x6, e0, h⟩ := Option.bind_eq_some_iff.mp h
        refine r_callV (dc_X10_count 38 rfl) mv_X10_overstatedAll ml_RX10_358 (As := []) (t_X10_overstatedAll (d := d - 1) hl (by omega) e0) (by omega) rfl (Nat.le_of_ble_eq_true rfl) ?_
        cases h
        exact r_ireturn (dc_X10_count 39 rfl) rfl
      rw [if_neg c4] at h
      by_cases c5 : xa1 = (8 : Int32)
      · rw [if_pos c5] at h
        refine r_tsInE c5 (dc_X10_count 33 rfl) (tgt := 122) (off := 67) (by decide) (by decide) (by decide) (by decide) ?_
        refine r_aload_n (dc_X10_count 40 rfl) rfl rfl ?_
        obtain ⟨x7, e0, h⟩ := Option.bind_eq_some_iff.mp h
        refine r_callV (dc_X10_count 41 rfl) mv_X10_firstOverstated ml_RX10_388 (As := []) (t_X10_firstOverstated (d := d - 1) hl (by omega) e0) (by omega) rfl (Nat.le_of_ble_eq_true rfl) ?_
        cases h
        exact r_ireturn (dc_X10_count 42 rfl) rfl
      rw [if_neg c5] at h
      by_cases c6 : xa1 = (9 : Int32)
      · rw [if_pos c6] at h
        refine r_tsInE c6 (dc_X10_count 33 rfl) (tgt := 127) (off := 72) (by decide) (by decide) (by decide) (by decide) ?_
        refine r_aload_n (dc_X10_count 43 rfl) rfl rfl ?_
        obtain ⟨x9, s8, e0, h⟩ := wb_some h
        refine r_callV (dc_X10_count 44 rfl) mv_X10_lostAll ml_RX10_391 (As := []) (t_X10_lostAll (d := d - 1) hl (by omega) e0) (by omega) rfl (Nat.le_of_ble_eq_true rfl) ?_
        cases h
        exact r_ireturn (dc_X10_count 45 rfl) rfl
      rw [if_neg c6] at h
      by_cases c7 : xa1 = (10 : Int32)
      · rw [if_pos c7] at h
        refine r_tsInE c7 (dc_X10_count 33 rfl) (tgt := 132) (off := 77) (by decide) (by decide) (by decide) (by decide) ?_
        refine r_aload_n (dc_X10_count 46 rfl) rfl rfl ?_
        refine r_iconst (dc_X10_count 47 rfl) kiconst_0 ?_
        refine r_iconst (dc_X10_count 48 rfl) kiconst_0 ?_
        obtain ⟨x10, e0, h⟩ := Option.bind_eq_some_iff.mp h
        refine r_callV (dc_X10_count 49 rfl) mv_X10_commonOf ml_RX10_296 (As := [.int (0 : Int32), .int (0 : Int32)]) (t_X10_commonOf (d := d - 1) hl (by omega) e0) (by omega) rfl (Nat.le_of_ble_eq_true rfl) ?_
        cases h
        exact r_ireturn (dc_X10_count 50 rfl) rfl
      rw [if_neg c7] at h
      by_cases c8 : xa1 = (11 : Int32)
      · rw [if_pos c8] at h
        refine r_tsInE c8 (dc_X10_count 33 rfl) (tgt := 139) (off := 84) (by decide) (by decide) (by decide) (by decide) ?_
        refine r_aload_n (dc_X10_count 51 rfl) rfl rfl ?_
        obtain ⟨x11, e0, h⟩ := Option.bind_eq_some_iff.mp h
        refine r_callV (dc_X10_count 52 rfl) mv_X10_areViewsLike ml_RX10_394 (As := []) (t_X10_areViewsLike (d := d - 1) hl (by omega) e0) (by omega) rfl (Nat.le_of_ble_eq_true rfl) ?_
        obtain ⟨x12, e0, h⟩ := Option.bind_eq_some_iff.mp h
        refine r_callS (dc_X10_count 53 rfl) ms_X10_flag ml_RX10_74 (As := [.int x11]) (t_X10_flag (d := d - 1) hl (by omega) e0) (by omega) rfl (Nat.le_of_ble_eq_true rfl) ?_
        cases h
        exact r_ireturn (dc_X10_count 54 rfl) rfl
      rw [if_neg c8] at h
      by_cases c9 : xa1 = (12 : Int32)
      · rw [if_pos c9] at h
        refine r_tsInE c9 (dc_X10_count 33 rfl) (tgt := 147) (off := 92) (by decide) (by decide) (by decide) (by decide) ?_
        refine r_aload_n (dc_X10_count 55 rfl) rfl rfl ?_
        obtain ⟨p13, e0, h⟩ := Option.bind_eq_some_iff.mp h
        refine r_getR (dc_X10_count 56 rfl) fl_RX10_14 e0 ?_
        refine r_bipush (dc_X10_count 57 rfl) kbipush_6 ?_
        obtain ⟨x14, e0, h⟩ := Option.bind_eq_some_iff.mp h
        refine r_iald (dc_X10_count 58 rfl) e0 ?_
        cases h
        exact r_ireturn (dc_X10_count 59 rfl) rfl
      rw [if_neg c9] at h
      by_cases c10 : xa1 = (13 : Int32)
      · rw [if_pos c10] at h
        refine r_tsInE c10 (dc_X10_count 33 rfl) (tgt := 155) (off := 100) (by decide) (by decide) (by decide) (by decide) ?_
        refine r_aload_n (dc_X10_count 60 rfl) rfl rfl ?_
        obtain ⟨x15, e0, h⟩ := Option.bind_eq_some_iff.mp h
        refine r_callV (dc_X10_count 61 rfl) mv_X10_cutMany ml_RX10_397 (As := []) (t_X10_cutMany (d := d - 1) hl (by omega) e0) (by omega) rfl (Nat.le_of_ble_eq_true rfl) ?_
        cases h
        exact r_ireturn (dc_X10_count 62 rfl) rfl
      rw [if_neg c10] at h
      refine r_tsOut (dc_X10_count 33 rfl) (tgt := 160) (ts_outL (n := 11) (lw := 3) (fun k hk => match k, hk with | 0, _ => c0 | 1, _ => c1 | 2, _ => c2 | 3, _ => c3 | 4, _ => c4 | 5, _ => c5 | 6, _ => c6 | 7, _ => c7 | 8, _ => c8 | 9, _ => c9 | 10, _ => c10 | k + 11, hk => absurd hk (by omega)) (by decide)) (by decide) ?_
      refine r_iconst (dc_X10_count 63 rfl) kiconst_m1 ?_
      cases h
      exact r_ireturn (dc_X10_count 64 rfl) rfl
    · rw [if_neg c0] at h
      refine r_aload_n (dc_X10_count 23 rfl) rfl rfl ?_
      obtain ⟨p16, e0, h⟩ := Option.bind_eq_some_iff.mp h
      refine r_getR (dc_X10_count 24 rfl) fl_RX10_14 e0 ?_
      refine r_iconst (dc_X10_count 25 rfl) kiconst_3 ?_
      refine r_iload_n (dc_X10_count 26 rfl) rfl rfl ?_
      refine r_iadd (dc_X10_count 27 rfl) ?_
      refine r_iconst (dc_X10_count 28 rfl) kiconst_4 ?_
      refine r_isub (dc_X10_count 29 rfl) ?_
      obtain ⟨x17, e0, h⟩ := Option.bind_eq_some_iff.mp h
      refine r_iald (dc_X10_count 30 rfl) e0 ?_
      cases h
      exact r_ireturn (dc_X10_count 31 rfl) rfl
  · rw [if_neg c0] at h
    refine r_aload_n (dc_X10_count 12 rfl) rfl rfl ?_
    obtain ⟨p18, e0, h⟩ := Option.bind_eq_some_iff.mp h
    refine r_getR (dc_X10_count 13 rfl) fl_RX10_14 e0 ?_
    refine r_iload_n (dc_X10_count 14 rfl) rfl rfl ?_
    obtain ⟨x19, e0, h⟩ := Option.bind_eq_some_iff.mp h
    refine r_iald (dc_X10_count 15 rfl) e0 ?_
    cases h
    exact r_ireturn (dc_X10_count 16 rfl) rfl
