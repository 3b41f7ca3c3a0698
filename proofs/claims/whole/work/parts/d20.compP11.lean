theorem t_X9_way {G : Gx} {d : Nat} (hl : G.1.stackTraces = false) (hd : 7 ≤ d) {σ : Sto} {a0 : Nat} {xa1 : Int32} {xa2 : Int32} {xa3 : Int32} {r : ((Int32 ⊕ String) × Sto)} (h : F_X9_way σ a0 xa1 xa2 xa3 = some r) : Mi G d m_X9_way 9 a0 [.int xa1, .int xa2, .int xa3] σ (toI r.1) r.2 := by
  rw [F_X9_way] at h
  obtain ⟨hg, h⟩ := chk_some h
  refine ⟨J.toMt (lo := [(0, .ref a0), (1, .int xa1), (2, .int xa2), (3, .int xa3)]) pn_RX9 rfl hl (Nat.le_of_ble_eq_true rfl) rfl ?_, hg⟩
  refine r_aload_n (dc_X9_way 0 rfl) rfl rfl ?_
  refine r_iload_n (dc_X9_way 1 rfl) rfl rfl ?_
  rcases tb_some h with ⟨u0, s1, e0, h⟩ | ⟨E0, s1, e0, h⟩
  rotate_left
  · subst h
    exact r_callVX (dc_X9_way 2 rfl) mv_X9_needSite ml_RX9_67 (As := [.int xa1]) (t_X9_needSite (d := d - 1) hl (by omega) e0) (by omega) rfl (Nat.le_of_ble_eq_true rfl) rfl
  refine r_callV (dc_X9_way 2 rfl) mv_X9_needSite ml_RX9_67 (As := [.int xa1]) (t_X9_needSite (d := d - 1) hl (by omega) e0) (by omega) rfl (Nat.le_of_ble_eq_true rfl) ?_
  refine r_aload_n (dc_X9_way 3 rfl) rfl rfl ?_
  refine r_iload_n (dc_X9_way 4 rfl) rfl rfl ?_
  rcases tb_some h with ⟨u0, s2, e0, h⟩ | ⟨E0, s2, e0, h⟩
  rotate_left
  · subst h
    exact r_callVX (dc_X9_way 5 rfl) mv_X9_needEvent ml_RX9_243 (As := [.int xa2]) (t_X9_needEvent (d := d - 1) hl (by omega) e0) (by omega) rfl (Nat.le_of_ble_eq_true rfl) rfl
  refine r_callV (dc_X9_way 5 rfl) mv_X9_needEvent ml_RX9_243 (As := [.int xa2]) (t_X9_needEvent (d := d - 1) hl (by omega) e0) (by omega) rfl (Nat.le_of_ble_eq_true rfl) ?_
  refine r_aload_n (dc_X9_way 6 rfl) rfl rfl ?_
  obtain ⟨p3, e0, h⟩ := Option.bind_eq_some_iff.mp h
  refine r_getR (dc_X9_way 7 rfl) fl_RX9_12 e0 ?_
  refine r_iload_n (dc_X9_way 8 rfl) rfl rfl ?_
  refine r_iload_n (dc_X9_way 9 rfl) rfl rfl ?_
  refine r_iload_n (dc_X9_way 10 rfl) rfl rfl ?_
  obtain ⟨x4, e0, h⟩ := Option.bind_eq_some_iff.mp h
  refine r_callV (dc_X9_way 11 rfl) mv_X8_wayOf ml_RX9_310 (As := [.int xa1, .int xa2, .int xa3]) (t_X8_wayOf (d := d - 1) hl (by omega) e0) (by omega) rfl (Nat.le_of_ble_eq_true rfl) ?_
  cases h
  exact r_ireturn (dc_X9_way 12 rfl) rfl
theorem t_X9_slowest {G : Gx} {d : Nat} (hl : G.1.stackTraces = false) (hd : 7 ≤ d) {σ : Sto} {a0 : Nat} {xa1 : Int32} {r : ((Int32 ⊕ String) × Sto)} (h : F_X9_slowest σ a0 xa1 = some r) : Mi G d m_X9_slowest 9 a0 [.int xa1] σ (toI r.1) r.2 := by
  rw [F_X9_slowest] at h
  obtain ⟨hg, h⟩ := chk_some h
  refine ⟨J.toMt (lo := [(0, .ref a0), (1, .int xa1)]) pn_RX9 rfl hl (Nat.le_of_ble_eq_true rfl) rfl ?_, hg⟩
  refine r_aload_n (dc_X9_slowest 0 rfl) rfl rfl ?_
  refine r_iload_n (dc_X9_slowest 1 rfl) rfl rfl ?_
  refine r_iconst (dc_X9_slowest 2 rfl) kiconst_2 ?_
  rcases tb_some h with ⟨u0, s1, e0, h⟩ | ⟨E0, s1, e0, h⟩
  rotate_left
  · subst h
    exact r_callVX (dc_X9_slowest 3 rfl) mv_X9_needWhat ml_RX9_166 (As := [.int xa1, .int (2 : Int32)]) (t_X9_needWhat (d := d - 1) hl (by omega) e0) (by omega) rfl (Nat.le_of_ble_eq_true rfl) rfl
  refine r_callV (dc_X9_slowest 3 rfl) mv_X9_needWhat ml_RX9_166 (As := [.int xa1, .int (2 : Int32)]) (t_X9_needWhat (d := d - 1) hl (by omega) e0) (by omega) rfl (Nat.le_of_ble_eq_true rfl) ?_
  refine r_aload_n (dc_X9_slowest 4 rfl) rfl rfl ?_
  obtain ⟨p2, e0, h⟩ := Option.bind_eq_some_iff.mp h
  refine r_getR (dc_X9_slowest 5 rfl) fl_RX9_12 e0 ?_
  obtain ⟨x3, e0, h⟩ := Option.bind_eq_some_iff.mp h
  refine r_callV (dc_X9_slowest 6 rfl) mv_X8_slowestEvent ml_RX9_313 (As := []) (t_X8_slowestEvent (d := d - 1) hl (by omega) e0) (by omega) rfl (Nat.le_of_ble_eq_true rfl) ?_
  refine r_istore_n (dc_X9_slowest 7 rfl) rfl (by decide) (lo' := [(2, .int x3), (0, .ref a0), (1, .int xa1)]) rfl ?_
  refine r_iload_n (dc_X9_slowest 8 rfl) rfl rfl ?_
  refine r_iconst (dc_X9_slowest 9 rfl) kiconst_m1 ?_
  refine r_icmp_eq (dc_X9_slowest 10 rfl) (tgt := 24) (by decide) (fun c0 => ?_) (fun c0 => ?_)
  · rw [if_pos c0] at h
    refine r_iload_n (dc_X9_slowest 14 rfl) rfl rfl ?_
    refine r_goto (dc_X9_slowest 15 rfl) (tgt := 36) (by decide) ?_
    cases h
    exact r_ireturn (dc_X9_slowest 20 rfl) rfl
  · rw [if_neg c0] at h
    refine r_iload_n (dc_X9_slowest 11 rfl) rfl rfl ?_
    refine r_iconst (dc_X9_slowest 12 rfl) kiconst_1 ?_
    refine r_icmp_ne (dc_X9_slowest 13 rfl) (tgt := 28) (by decide) (fun c0 => ?_) (fun c0 => ?_)
    · rw [if_neg c0] at h
      refine r_aload_n (dc_X9_slowest 16 rfl) rfl rfl ?_
      obtain ⟨p4, e0, h⟩ := Option.bind_eq_some_iff.mp h
      refine r_getR (dc_X9_slowest 17 rfl) fl_RX9_12 e0 ?_
      refine r_iload_n (dc_X9_slowest 18 rfl) rfl rfl ?_
      obtain ⟨x5, e0, h⟩ := Option.bind_eq_some_iff.mp h
      refine r_callV (dc_X9_slowest 19 rfl) mv_X8_stepsToAll ml_RX9_316 (As := [.int x3]) (t_X8_stepsToAll (d := d - 1) hl (by omega) e0) (by omega) rfl (Nat.le_of_ble_eq_true rfl) ?_
      cases h
      exact r_ireturn (dc_X9_slowest 20 rfl) rfl
    · rw [if_pos c0] at h
      refine r_iload_n (dc_X9_slowest 14 rfl) rfl rfl ?_
      refine r_goto (dc_X9_slowest 15 rfl) (tgt := 36) (by decide) ?_
      cases h
      exact r_ireturn (dc_X9_slowest 20 rfl) rfl
theorem t_X9_chain {G : Gx} {d : Nat} (hl : G.1.stackTraces = false) (hd : 7 ≤ d) {σ : Sto} {a0 : Nat} {xa1 : Int32} {xa2 : Int32} {r : ((Int32 ⊕ String) × Sto)} (h : F_X9_chain σ a0 xa1 xa2 = some r) : Mi G d m_X9_chain 9 a0 [.int xa1, .int xa2] σ (toI r.1) r.2 := by
  rw [F_X9_chain] at h
  obtain ⟨hg, h⟩ := chk_some h
  refine ⟨J.toMt (lo := [(0, .ref a0), (1, .int xa1), (2, .int xa2)]) pn_RX9 rfl hl (Nat.le_of_ble_eq_true rfl) rfl ?_, hg⟩
  refine r_aload_n (dc_X9_chain 0 rfl) rfl rfl ?_
  refine r_iload_n (dc_X9_chain 1 rfl) rfl rfl ?_
  rcases tb_some h with ⟨u0, s1, e0, h⟩ | ⟨E0, s1, e0, h⟩
  rotate_left
  · subst h
    exact r_callVX (dc_X9_chain 2 rfl) mv_X9_needEvent ml_RX9_243 (As := [.int xa1]) (t_X9_needEvent (d := d - 1) hl (by omega) e0) (by omega) rfl (Nat.le_of_ble_eq_true rfl) rfl
  refine r_callV (dc_X9_chain 2 rfl) mv_X9_needEvent ml_RX9_243 (As := [.int xa1]) (t_X9_needEvent (d := d - 1) hl (by omega) e0) (by omega) rfl (Nat.le_of_ble_eq_true rfl) ?_
  refine r_aload_n (dc_X9_chain 3 rfl) rfl rfl ?_
  obtain ⟨p2, e0, h⟩ := Option.bind_eq_some_iff.mp h
  refine r_getR (dc_X9_chain 4 rfl) fl_RX9_32 e0 ?_
  refine r_iload_n (dc_X9_chain 5 rfl) rfl rfl ?_
  refine r_iload_n (dc_X9_chain 6 rfl) rfl rfl ?_
  obtain ⟨x4, s3, e0, h⟩ := wb_some h
  refine r_callV (dc_X9_chain 7 rfl) mv_X5_inLongestRow ml_RX9_319 (As := [.int xa1, .int xa2]) (t_X5_inLongestRow (d := d - 1) hl (by omega) e0) (by omega) rfl (Nat.le_of_ble_eq_true rfl) ?_
  cases h
  exact r_ireturn (dc_X9_chain 8 rfl) rfl
theorem l_X9_between_L15 {G : Gx} {d : Nat} (hl : G.1.stackTraces = false) (hd : 7 ≤ d) {sL : Sto} {pL0 : Nat} {xL1 : Int32} {xL2 : Int32} {r : ((Int32 ⊕ String) × Sto)} {k71 : Int32 → Option ((Int32 ⊕ String) × Sto)}
    (hk71 : ∀ (xL3 : Int32), k71 xL3 = some r → J G d m_X9_between 71 [(3, .int xL3)] [] sL (toI r.1) r.2)
  : ∀ (f : Nat) (xL3 : Int32) (xL4 : Int32), F_X9_between_L15 sL pL0 xL1 xL2 f xL3 xL4 k71 = some r → J G d m_X9_between 15 [(0, .ref pL0), (1, .int xL1), (2, .int xL2), (3, .int xL3), (4, .int xL4)] [] sL (toI r.1) r.2 := by
  intro f
  induction f with
  | zero => intro xL3 xL4 h; rw [F_X9_between_L15] at h; cases h
  | succ f ih =>
    intro xL3 xL4 h
    rw [F_X9_between_L15] at h
    refine r_iload (dc_X9_between 10 rfl) rfl ?_
    refine r_aload_n (dc_X9_between 11 rfl) rfl rfl ?_
    obtain ⟨p3, e0, h⟩ := Option.bind_eq_some_iff.mp h
    refine r_getR (dc_X9_between 12 rfl) fl_RX9_12 e0 ?_
    obtain ⟨p4, e0, h⟩ := Option.bind_eq_some_iff.mp h
    refine r_getR (dc_X9_between 13 rfl) fl_RX9_84 e0 ?_
    obtain ⟨x5, e0, h⟩ := Option.bind_eq_some_iff.mp h
    refine r_getI (dc_X9_between 14 rfl) fl_RX9_205 e0 ?_
    refine r_icmp_ge (dc_X9_between 15 rfl) (tgt := 71) (by decide) (fun c0 => ?_) (fun c0 => ?_)
    · rw [if_pos c0] at h
      refine r_pick [3] (lo' := [(3, .int xL3)]) rfl ?_
      exact hk71 _ h
    · rw [if_neg c0] at h
      refine r_aload_n (dc_X9_between 16 rfl) rfl rfl ?_
      obtain ⟨p6, e0, h⟩ := Option.bind_eq_some_iff.mp h
      refine r_getR (dc_X9_between 17 rfl) fl_RX9_12 e0 ?_
      obtain ⟨p7, e0, h⟩ := Option.bind_eq_some_iff.mp h
      refine r_getR (dc_X9_between 18 rfl) fl_RX9_84 e0 ?_
      refine r_iload_n (dc_X9_between 19 rfl) rfl rfl ?_
      refine r_iload (dc_X9_between 20 rfl) rfl ?_
      obtain ⟨x8, e0, h⟩ := Option.bind_eq_some_iff.mp h
      refine r_callV (dc_X9_between 21 rfl) mv_X2_isAhead ml_RX9_295 (As := [.int xL1, .int xL4]) (t_X2_isAhead (d := d - 1) hl (by omega) e0) (by omega) rfl (Nat.le_of_ble_eq_true rfl) ?_
      refine r_if_eq (dc_X9_between 22 rfl) (tgt := 65) (by decide) (fun c0 => ?_) (fun c0 => ?_)
      · rw [if_pos c0] at h
        refine r_iinc (dc_X9_between 31 rfl) rfl (kinc_1 _) (by decide) (lo' := [(4, .int (xL4 + (1 : Int32))), (0, .ref pL0), (1, .int xL1), (2, .int xL2), (3, .int xL3)]) rfl ?_
        refine r_goto (dc_X9_between 32 rfl) (tgt := 15) (by decide) ?_
        refine r_pick [1, 2, 3, 4, 0] (lo' := [(0, .ref pL0), (1, .int xL1), (2, .int xL2), (3, .int xL3), (4, .int (xL4 + (1 : Int32)))]) rfl ?_
        exact ih _ _ h
      · rw [if_neg c0] at h
        refine r_aload_n (dc_X9_between 23 rfl) rfl rfl ?_
        obtain ⟨p9, e0, h⟩ := Option.bind_eq_some_iff.mp h
        refine r_getR (dc_X9_between 24 rfl) fl_RX9_12 e0 ?_
        obtain ⟨p10, e0, h⟩ := Option.bind_eq_some_iff.mp h
        refine r_getR (dc_X9_between 25 rfl) fl_RX9_84 e0 ?_
        refine r_iload (dc_X9_between 26 rfl) rfl ?_
        refine r_iload_n (dc_X9_between 27 rfl) rfl rfl ?_
        obtain ⟨x11, e0, h⟩ := Option.bind_eq_some_iff.mp h
        refine r_callV (dc_X9_between 28 rfl) mv_X2_isAhead ml_RX9_295 (As := [.int xL4, .int xL2]) (t_X2_isAhead (d := d - 1) hl (by omega) e0) (by omega) rfl (Nat.le_of_ble_eq_true rfl) ?_
        refine r_if_eq (dc_X9_between 29 rfl) (tgt := 65) (by decide) (fun c0 => ?_) (fun c0 => ?_)
        · rw [if_pos c0] at h
          refine r_iinc (dc_X9_between 31 rfl) rfl (kinc_1 _) (by decide) (lo' := [(4, .int (xL4 + (1 : Int32))), (0, .ref pL0), (1, .int xL1), (2, .int xL2), (3, .int xL3)]) rfl ?_
          refine r_goto (dc_X9_between 32 rfl) (tgt := 15) (by decide) ?_
          refine r_pick [1, 2, 3, 4, 0] (lo' := [(0, .ref pL0), (1, .int xL1), (2, .int xL2), (3, .int xL3), (4, .int (xL4 + (1 : Int32)))]) rfl ?_
          exact ih _ _ h
        · rw [if_neg c0] at h
          refine r_iinc (dc_X9_between 30 rfl) rfl (kinc_1 _) (by decide) (lo' := [(3, .int (xL3 + (1 : Int32))), (0, .ref pL0), (1, .int xL1), (2, .int xL2), (4, .int xL4)]) rfl ?_
          refine r_iinc (dc_X9_between 31 rfl) rfl (kinc_1 _) (by decide) (lo' := [(4, .int (xL4 + (1 : Int32))), (3, .int (xL3 + (1 : Int32))), (0, .ref pL0), (1, .int xL1), (2, .int xL2)]) rfl ?_
          refine r_goto (dc_X9_between 32 rfl) (tgt := 15) (by decide) ?_
          refine r_pick [2, 3, 4, 1, 0] (lo' := [(0, .ref pL0), (1, .int xL1), (2, .int xL2), (3, .int (xL3 + (1 : Int32))), (4, .int (xL4 + (1 : Int32)))]) rfl ?_
          exact ih _ _ h
theorem t_X9_between {G : Gx} {d : Nat} (hl : G.1.stackTraces = false) (hd : 7 ≤ d) {σ : Sto} {a0 : Nat} {xa1 : Int32} {xa2 : Int32} {r : ((Int32 ⊕ String) × Sto)} (h : F_X9_between σ a0 xa1 xa2 = some r) : Mi G d m_X9_between 9 a0 [.int xa1, .int xa2] σ (toI r.1) r.2 := by
  rw [F_X9_between] at h
  obtain ⟨hg, h⟩ := chk_some h
  refine ⟨J.toMt (lo := [(0, .ref a0), (1, .int xa1), (2, .int xa2)]) pn_RX9 rfl hl (Nat.le_of_ble_eq_true rfl) rfl ?_, hg⟩
  refine r_aload_n (dc_X9_between 0 rfl) rfl rfl ?_
  refine r_iload_n (dc_X9_between 1 rfl) rfl rfl ?_
  rcases tb_some h with ⟨u0, s1, e0, h⟩ | ⟨E0, s1, e0, h⟩
  rotate_left
  · subst h
    exact r_callVX (dc_X9_between 2 rfl) mv_X9_needEvent ml_RX9_243 (As := [.int xa1]) (t_X9_needEvent (d := d - 1) hl (by omega) e0) (by omega) rfl (Nat.le_of_ble_eq_true rfl) rfl
  refine r_callV (dc_X9_between 2 rfl) mv_X9_needEvent ml_RX9_243 (As := [.int xa1]) (t_X9_needEvent (d := d - 1) hl (by omega) e0) (by omega) rfl (Nat.le_of_ble_eq_true rfl) ?_
  refine r_aload_n (dc_X9_between 3 rfl) rfl rfl ?_
  refine r_iload_n (dc_X9_between 4 rfl) rfl rfl ?_
  rcases tb_some h with ⟨u0, s2, e0, h⟩ | ⟨E0, s2, e0, h⟩
  rotate_left
  · subst h
    exact r_callVX (dc_X9_between 5 rfl) mv_X9_needEvent ml_RX9_243 (As := [.int xa2]) (t_X9_needEvent (d := d - 1) hl (by omega) e0) (by omega) rfl (Nat.le_of_ble_eq_true rfl) rfl
  refine r_callV (dc_X9_between 5 rfl) mv_X9_needEvent ml_RX9_243 (As := [.int xa2]) (t_X9_needEvent (d := d - 1) hl (by omega) e0) (by omega) rfl (Nat.le_of_ble_eq_true rfl) ?_
  refine r_iconst (dc_X9_between 6 rfl) kiconst_0 ?_
  refine r_istore_n (dc_X9_between 7 rfl) rfl (by decide) (lo' := [(3, .int (0 : Int32)), (0, .ref a0), (1, .int xa1), (2, .int xa2)]) rfl ?_
  refine r_iconst (dc_X9_between 8 rfl) kiconst_0 ?_
  refine r_istore (dc_X9_between 9 rfl) (by decide) (lo' := [(4, .int (0 : Int32)), (3, .int (0 : Int32)), (0, .ref a0), (1, .int xa1), (2, .int xa2)]) rfl ?_
  refine r_pick [2, 3, 4, 1, 0] (lo' := [(0, .ref a0), (1, .int xa1), (2, .int xa2), (3, .int (0 : Int32)), (4, .int (0 : Int32))]) rfl ?_
  refine l_X9_between_L15 hl hd (hk71 := ?_) fu _ _ h
  · intro x12 h
    refine r_iload_n (dc_X9_between 33 rfl) rfl rfl ?_
    cases h
    exact r_ireturn (dc_X9_between 34 rfl) rfl
theorem t_X9_front {G : Gx} {d : Nat} (hl : G.1.stackTraces = false) (hd : 7 ≤ d) {σ : Sto} {a0 : Nat} {xa1 : Int32} {xa2 : Int32} {r : ((Int32 ⊕ String) × Sto)} (h : F_X9_front σ a0 xa1 xa2 = some r) : Mi G d m_X9_front 9 a0 [.int xa1, .int xa2] σ (toI r.1) r.2 := by
  rw [F_X9_front] at h
  obtain ⟨hg, h⟩ := chk_some h
  refine ⟨J.toMt (lo := [(0, .ref a0), (1, .int xa1), (2, .int xa2)]) pn_RX9 rfl hl (Nat.le_of_ble_eq_true rfl) rfl ?_, hg⟩
  refine r_aload_n (dc_X9_front 0 rfl) rfl rfl ?_
  refine r_iload_n (dc_X9_front 1 rfl) rfl rfl ?_
  rcases tb_some h with ⟨u0, s1, e0, h⟩ | ⟨E0, s1, e0, h⟩
  rotate_left
  · subst h
    exact r_callVX (dc_X9_front 2 rfl) mv_X9_needSite ml_RX9_67 (As := [.int xa1]) (t_X9_needSite (d := d - 1) hl (by omega) e0) (by omega) rfl (Nat.le_of_ble_eq_true rfl) rfl
  refine r_callV (dc_X9_front 2 rfl) mv_X9_needSite ml_RX9_67 (As := [.int xa1]) (t_X9_needSite (d := d - 1) hl (by omega) e0) (by omega) rfl (Nat.le_of_ble_eq_true rfl) ?_
  refine r_aload_n (dc_X9_front 3 rfl) rfl rfl ?_
  obtain ⟨p2, e0, h⟩ := Option.bind_eq_some_iff.mp h
  refine r_getR (dc_X9_front 4 rfl) fl_RX9_32 e0 ?_
  refine r_iload_n (dc_X9_front 5 rfl) rfl rfl ?_
  obtain ⟨p4, s3, e0, h⟩ := wb_some h
  refine r_callV (dc_X9_front 6 rfl) mv_X5_frontOf ml_RX9_322 (As := [.int xa1]) (t_X5_frontOf (d := d - 1) hl (by omega) e0) (by omega) rfl (Nat.le_of_ble_eq_true rfl) ?_
  refine r_astore_n (dc_X9_front 7 rfl) rfl (by decide) (lo' := [(3, .ref p4), (0, .ref a0), (1, .int xa1), (2, .int xa2)]) rfl ?_
  refine r_iload_n (dc_X9_front 8 rfl) rfl rfl ?_
  refine r_iconst (dc_X9_front 9 rfl) kiconst_m1 ?_
  refine r_icmp_ne (dc_X9_front 10 rfl) (tgt := 26) (by decide) (fun c0 => ?_) (fun c0 => ?_)
  · rw [if_neg c0] at h
    refine r_aload_n (dc_X9_front 14 rfl) rfl rfl ?_
    refine r_iload_n (dc_X9_front 15 rfl) rfl rfl ?_
    obtain ⟨x5, e0, h⟩ := Option.bind_eq_some_iff.mp h
    refine r_callV (dc_X9_front 16 rfl) mv_X1_nth ml_RX9_221 (As := [.int xa2]) (t_X1_nth (d := d - 1) hl (by omega) e0) (by omega) rfl (Nat.le_of_ble_eq_true rfl) ?_
    cases h
    exact r_ireturn (dc_X9_front 17 rfl) rfl
  · rw [if_pos c0] at h
    refine r_aload_n (dc_X9_front 11 rfl) rfl rfl ?_
    obtain ⟨x6, e0, h⟩ := Option.bind_eq_some_iff.mp h
    refine r_callV (dc_X9_front 12 rfl) mv_X1_size ml_RX9_253 (As := []) (t_X1_size (d := d - 1) hl (by omega) e0) (by omega) rfl (Nat.le_of_ble_eq_true rfl) ?_
    refine r_goto (dc_X9_front 13 rfl) (tgt := 31) (by decide) ?_
    cases h
    exact r_ireturn (dc_X9_front 17 rfl) rfl
theorem t_X9_only {G : Gx} {d : Nat} (hl : G.1.stackTraces = false) (hd : 7 ≤ d) {σ : Sto} {a0 : Nat} {xa1 : Int32} {xa2 : Int32} {xa3 : Int32} {r : ((Int32 ⊕ String) × Sto)} (h : F_X9_only σ a0 xa1 xa2 xa3 = some r) : Mi G d m_X9_only 9 a0 [.int xa1, .int xa2, .int xa3] σ (toI r.1) r.2 := by
  rw [F_X9_only] at h
  obtain ⟨hg, h⟩ := chk_some h
  refine ⟨J.toMt (lo := [(0, .ref a0), (1, .int xa1), (2, .int xa2), (3, .int xa3)]) pn_RX9 rfl hl (Nat.le_of_ble_eq_true rfl) rfl ?_, hg⟩
  refine r_aload_n (dc_X9_only 0 rfl) rfl rfl ?_
  refine r_iload_n (dc_X9_only 1 rfl) rfl rfl ?_
  refine r_iload_n (dc_X9_only 2 rfl) rfl rfl ?_
  rcases tb_some h with ⟨u0, s1, e0, h⟩ | ⟨E0, s1, e0, h⟩
  rotate_left
  · subst h
    exact r_callVX (dc_X9_only 3 rfl) mv_X9_needTwoSites ml_RX9_117 (As := [.int xa1, .int xa2]) (t_X9_needTwoSites (d := d - 1) hl (by omega) e0) (by omega) rfl (Nat.le_of_ble_eq_true rfl) rfl
  refine r_callV (dc_X9_only 3 rfl) mv_X9_needTwoSites ml_RX9_117 (As := [.int xa1, .int xa2]) (t_X9_needTwoSites (d := d - 1) hl (by omega) e0) (by omega) rfl (Nat.le_of_ble_eq_true rfl) ?_
  refine r_aload_n (dc_X9_only 4 rfl) rfl rfl ?_
  obtain ⟨p2, e0, h⟩ := Option.bind_eq_some_iff.mp h
  refine r_getR (dc_X9_only 5 rfl) fl_RX9_32 e0 ?_
  refine r_iload_n (dc_X9_only 6 rfl) rfl rfl ?_
  refine r_iload_n (dc_X9_only 7 rfl) rfl rfl ?_
  obtain ⟨p4, s3, e0, h⟩ := wb_some h
  refine r_callV (dc_X9_only 8 rfl) mv_X5_onlyAt ml_RX9_326 (As := [.int xa1, .int xa2]) (t_X5_onlyAt (d := d - 1) hl (by omega) e0) (by omega) rfl (Nat.le_of_ble_eq_true rfl) ?_
  refine r_iload_n (dc_X9_only 9 rfl) rfl rfl ?_
  obtain ⟨x5, e0, h⟩ := Option.bind_eq_some_iff.mp h
  refine r_callV (dc_X9_only 10 rfl) mv_X1_nth ml_RX9_221 (As := [.int xa3]) (t_X1_nth (d := d - 1) hl (by omega) e0) (by omega) rfl (Nat.le_of_ble_eq_true rfl) ?_
  cases h
  exact r_ireturn (dc_X9_only 11 rfl) rfl
theorem l_X9_sure_L36 {G : Gx} {d : Nat} (hl : G.1.stackTraces = false) (hd : 7 ≤ d) {sL : Sto} {pL0 : Nat} {xL1 : Int32} {xL2 : Int32} {r : ((Int32 ⊕ String) × Sto)} {k112 : Int32 → Option ((Int32 ⊕ String) × Sto)}
    (hk112 : ∀ (xL3 : Int32), k112 xL3 = some r → J G d m_X9_sure 112 [(3, .int xL3)] [] sL (toI r.1) r.2)
  : ∀ (f : Nat) (xL3 : Int32) (xL4 : Int32), F_X9_sure_L36 sL pL0 xL1 xL2 f xL3 xL4 k112 = some r → J G d m_X9_sure 36 [(0, .ref pL0), (1, .int xL1), (2, .int xL2), (3, .int xL3), (4, .int xL4)] [] sL (toI r.1) r.2 := by
  intro f
  induction f with
  | zero => intro xL3 xL4 h; rw [F_X9_sure_L36] at h; cases h
  | succ f ih =>
    intro xL3 xL4 h
    rw [F_X9_sure_L36] at h
    refine r_iload (dc_X9_sure 19 rfl) rfl ?_
    refine r_aload_n (dc_X9_sure 20 rfl) rfl rfl ?_
    obtain ⟨p4, e0, h⟩ := Option.bind_eq_some_iff.mp h
    refine r_getR (dc_X9_sure 21 rfl) fl_RX9_12 e0 ?_
    obtain ⟨p5, e0, h⟩ := Option.bind_eq_some_iff.mp h
    refine r_getR (dc_X9_sure 22 rfl) fl_RX9_84 e0 ?_
    obtain ⟨x6, e0, h⟩ := Option.bind_eq_some_iff.mp h
    refine r_getI (dc_X9_sure 23 rfl) fl_RX9_205 e0 ?_
    refine r_icmp_ge (dc_X9_sure 24 rfl) (tgt := 112) (by decide) (fun c0 => ?_) (fun c0 => ?_)
    · rw [if_pos c0] at h
      refine r_pick [3] (lo' := [(3, .int xL3)]) rfl ?_
      exact hk112 _ h
    · rw [if_neg c0] at h
      refine r_aload_n (dc_X9_sure 25 rfl) rfl rfl ?_
      obtain ⟨p7, e0, h⟩ := Option.bind_eq_some_iff.mp h
      refine r_getR (dc_X9_sure 26 rfl) fl_RX9_12 e0 ?_
      obtain ⟨p8, e0, h⟩ := Option.bind_eq_some_iff.mp h
      refine r_getR (dc_X9_sure 27 rfl) fl_RX9_94 e0 ?_
      refine r_iload_n (dc_X9_sure 28 rfl) rfl rfl ?_
      obtain ⟨p9, e0, h⟩ := Option.bind_eq_some_iff.mp h
      refine r_aaldR (dc_X9_sure 29 rfl) (kd := 4) rfl e0 ?_
      obtain ⟨p10, e0, h⟩ := Option.bind_eq_some_iff.mp h
      refine r_getR (dc_X9_sure 30 rfl) fl_RX9_180 e0 ?_
      refine r_iload (dc_X9_sure 31 rfl) rfl ?_
      obtain ⟨x11, e0, h⟩ := Option.bind_eq_some_iff.mp h
      refine r_callV (dc_X9_sure 32 rfl) mv_X1_holds ml_RX9_104 (As := [.int xL4]) (t_X1_holds (d := d - 1) hl (by omega) e0) (by omega) rfl (Nat.le_of_ble_eq_true rfl) ?_
      refine r_if_eq (dc_X9_sure 33 rfl) (tgt := 106) (by decide) (fun c0 => ?_) (fun c0 => ?_)
      · rw [if_pos c0] at h
        refine r_iinc (dc_X9_sure 50 rfl) rfl (kinc_1 _) (by decide) (lo' := [(4, .int (xL4 + (1 : Int32))), (0, .ref pL0), (1, .int xL1), (2, .int xL2), (3, .int xL3)]) rfl ?_
        refine r_goto (dc_X9_sure 51 rfl) (tgt := 36) (by decide) ?_
        refine r_pick [1, 2, 3, 4, 0] (lo' := [(0, .ref pL0), (1, .int xL1), (2, .int xL2), (3, .int xL3), (4, .int (xL4 + (1 : Int32)))]) rfl ?_
        exact ih _ _ h
      · rw [if_neg c0] at h
        refine r_aload_n (dc_X9_sure 34 rfl) rfl rfl ?_
        obtain ⟨p12, e0, h⟩ := Option.bind_eq_some_iff.mp h
        refine r_getR (dc_X9_sure 35 rfl) fl_RX9_12 e0 ?_
        obtain ⟨p13, e0, h⟩ := Option.bind_eq_some_iff.mp h
        refine r_getR (dc_X9_sure 36 rfl) fl_RX9_94 e0 ?_
        refine r_iload_n (dc_X9_sure 37 rfl) rfl rfl ?_
        obtain ⟨p14, e0, h⟩ := Option.bind_eq_some_iff.mp h
        refine r_aaldR (dc_X9_sure 38 rfl) (kd := 4) rfl e0 ?_
        refine r_aload_n (dc_X9_sure 39 rfl) rfl rfl ?_
        obtain ⟨p15, e0, h⟩ := Option.bind_eq_some_iff.mp h
        refine r_getR (dc_X9_sure 40 rfl) fl_RX9_12 e0 ?_
        obtain ⟨p16, e0, h⟩ := Option.bind_eq_some_iff.mp h
        refine r_getR (dc_X9_sure 41 rfl) fl_RX9_84 e0 ?_
        refine r_iload (dc_X9_sure 42 rfl) rfl ?_
        refine r_aload_n (dc_X9_sure 43 rfl) rfl rfl ?_
        obtain ⟨p17, e0, h⟩ := Option.bind_eq_some_iff.mp h
        refine r_getR (dc_X9_sure 44 rfl) fl_RX9_12 e0 ?_
        obtain ⟨x18, e0, h⟩ := Option.bind_eq_some_iff.mp h
        refine r_getI (dc_X9_sure 45 rfl) fl_RX9_330 e0 ?_
        obtain ⟨x19, e0, h⟩ := Option.bind_eq_some_iff.mp h
        refine r_callV (dc_X9_sure 46 rfl) mv_X6_sitesThatKnow ml_RX9_335 (As := [.ref p16, .int xL4, .int x18]) (t_X6_sitesThatKnow (d := d - 1) hl (by omega) e0) (by omega) rfl (Nat.le_of_ble_eq_true rfl) ?_
        refine r_iload_n (dc_X9_sure 47 rfl) rfl rfl ?_
        refine r_icmp_lt (dc_X9_sure 48 rfl) (tgt := 106) (by decide) (fun c0 => ?_) (fun c0 => ?_)
        · rw [if_pos c0] at h
          refine r_iinc (dc_X9_sure 50 rfl) rfl (kinc_1 _) (by decide) (lo' := [(4, .int (xL4 + (1 : Int32))), (0, .ref pL0), (1, .int xL1), (2, .int xL2), (3, .int xL3)]) rfl ?_
          refine r_goto (dc_X9_sure 51 rfl) (tgt := 36) (by decide) ?_
          refine r_pick [1, 2, 3, 4, 0] (lo' := [(0, .ref pL0), (1, .int xL1), (2, .int xL2), (3, .int xL3), (4, .int (xL4 + (1 : Int32)))]) rfl ?_
          exact ih _ _ h
        · rw [if_neg c0] at h
          refine r_iinc (dc_X9_sure 49 rfl) rfl (kinc_1 _) (by decide) (lo' := [(3, .int (xL3 + (1 : Int32))), (0, .ref pL0), (1, .int xL1), (2, .int xL2), (4, .int xL4)]) rfl ?_
          refine r_iinc (dc_X9_sure 50 rfl) rfl (kinc_1 _) (by decide) (lo' := [(4, .int (xL4 + (1 : Int32))), (3, .int (xL3 + (1 : Int32))), (0, .ref pL0), (1, .int xL1), (2, .int xL2)]) rfl ?_
          refine r_goto (dc_X9_sure 51 rfl) (tgt := 36) (by decide) ?_
          refine r_pick [2, 3, 4, 1, 0] (lo' := [(0, .ref pL0), (1, .int xL1), (2, .int xL2), (3, .int (xL3 + (1 : Int32))), (4, .int (xL4 + (1 : Int32)))]) rfl ?_
          exact ih _ _ h
theorem t_X9_sure {G : Gx} {d : Nat} (hl : G.1.stackTraces = false) (hd : 7 ≤ d) {σ : Sto} {a0 : Nat} {xa1 : Int32} {xa2 : Int32} {r : ((Int32 ⊕ String) × Sto)} (h : F_X9_sure σ a0 xa1 xa2 = some r) : Mi G d m_X9_sure 9 a0 [.int xa1, .int xa2] σ (toI r.1) r.2 := by
  rw [F_X9_sure] at h
  obtain ⟨hg, h⟩ := chk_some h
  refine ⟨J.toMt (lo := [(0, .ref a0), (1, .int xa1), (2, .int xa2)]) pn_RX9 rfl hl (Nat.le_of_ble_eq_true rfl) rfl ?_, hg⟩
  refine r_aload_n (dc_X9_sure 0 rfl) rfl rfl ?_
  refine r_iload_n (dc_X9_sure 1 rfl) rfl rfl ?_
  rcases tb_some h with ⟨u0, s1, e0, h⟩ | ⟨E0, s1, e0, h⟩
  rotate_left
  · subst h
    exact r_callVX (dc_X9_sure 2 rfl) mv_X9_needSite ml_RX9_67 (As := [.int xa1]) (t_X9_needSite (d := d - 1) hl (by omega) e0) (by omega) rfl (Nat.le_of_ble_eq_true rfl) rfl
  refine r_callV (dc_X9_sure 2 rfl) mv_X9_needSite ml_RX9_67 (As := [.int xa1]) (t_X9_needSite (d := d - 1) hl (by omega) e0) (by omega) rfl (Nat.le_of_ble_eq_true rfl) ?_
  refine r_iload_n (dc_X9_sure 3 rfl) rfl rfl ?_
  refine r_if_lt (dc_X9_sure 4 rfl) (tgt := 20) (by decide) (fun c0 => ?_) (fun c0 => ?_)
  · rw [if_pos c0] at h
    cases h
    exact r_throwSW tl_RX9_47_51 (str_in 19 rfl) (dc_X9_sure 10 rfl) (dc_X9_sure 11 rfl) (dc_X9_sure 12 rfl) (dc_X9_sure 13 rfl) (dc_X9_sure 14 rfl) rfl (by omega) (Nat.le_of_ble_eq_true rfl)
  · rw [if_neg c0] at h
    refine r_iload_n (dc_X9_sure 5 rfl) rfl rfl ?_
    refine r_aload_n (dc_X9_sure 6 rfl) rfl rfl ?_
    obtain ⟨p2, e0, h⟩ := Option.bind_eq_some_iff.mp h
    refine r_getR (dc_X9_sure 7 rfl) fl_RX9_12 e0 ?_
    obtain ⟨x3, e0, h⟩ := Option.bind_eq_some_iff.mp h
    refine r_getI (dc_X9_sure 8 rfl) fl_RX9_330 e0 ?_
    refine r_icmp_le (dc_X9_sure 9 rfl) (tgt := 31) (by decide) (fun c0 => ?_) (fun c0 => ?_)
    · rw [if_pos c0] at h
      refine r_iconst (dc_X9_sure 15 rfl) kiconst_0 ?_
      refine r_istore_n (dc_X9_sure 16 rfl) rfl (by decide) (lo' := [(3, .int (0 : Int32)), (0, .ref a0), (1, .int xa1), (2, .int xa2)]) rfl ?_
      refine r_iconst (dc_X9_sure 17 rfl) kiconst_0 ?_
      refine r_istore (dc_X9_sure 18 rfl) (by decide) (lo' := [(4, .int (0 : Int32)), (3, .int (0 : Int32)), (0, .ref a0), (1, .int xa1), (2, .int xa2)]) rfl ?_
      refine r_pick [2, 3, 4, 1, 0] (lo' := [(0, .ref a0), (1, .int xa1), (2, .int xa2), (3, .int (0 : Int32)), (4, .int (0 : Int32))]) rfl ?_
      refine l_X9_sure_L36 hl hd (hk112 := ?_) fu _ _ h
      · intro x20 h
        refine r_iload_n (dc_X9_sure 52 rfl) rfl rfl ?_
        cases h
        exact r_ireturn (dc_X9_sure 53 rfl) rfl
    · rw [if_neg c0] at h
      cases h
      exact r_throwSW tl_RX9_47_51 (str_in 19 rfl) (dc_X9_sure 10 rfl) (dc_X9_sure 11 rfl) (dc_X9_sure 12 rfl) (dc_X9_sure 13 rfl) (dc_X9_sure 14 rfl) rfl (by omega) (Nat.le_of_ble_eq_true rfl)
theorem t_X9_part {G : Gx} {d : Nat} (hl : G.1.stackTraces = false) (hd : 7 ≤ d) {σ : Sto} {a0 : Nat} {xa1 : Int32} {r : ((Int32 ⊕ String) × Sto)} (h : F_X9_part σ a0 xa1 = some r) : Mi G d m_X9_part 9 a0 [.int xa1] σ (toI r.1) r.2 := by
  rw [F_X9_part] at h
  obtain ⟨hg, h⟩ := chk_some h
  refine ⟨J.toMt (lo := [(0, .ref a0), (1, .int xa1)]) pn_RX9 rfl hl (Nat.le_of_ble_eq_true rfl) rfl ?_, hg⟩
  refine r_iload_n (dc_X9_part 0 rfl) rfl rfl ?_
  refine r_iconst (dc_X9_part 1 rfl) kiconst_m1 ?_
  refine r_icmp_ne (dc_X9_part 2 rfl) (tgt := 13) (by decide) (fun c0 => ?_) (fun c0 => ?_)
  · rw [if_neg c0] at h
    refine r_aload_n (dc_X9_part 7 rfl) rfl rfl ?_
    refine r_iload_n (dc_X9_part 8 rfl) rfl rfl ?_
    rcases tb_some h with ⟨u0, s1, e0, h⟩ | ⟨E0, s1, e0, h⟩
    rotate_left
    · subst h
      exact r_callVX (dc_X9_part 9 rfl) mv_X9_needSite ml_RX9_67 (As := [.int xa1]) (t_X9_needSite (d := d - 1) hl (by omega) e0) (by omega) rfl (Nat.le_of_ble_eq_true rfl) rfl
    refine r_callV (dc_X9_part 9 rfl) mv_X9_needSite ml_RX9_67 (As := [.int xa1]) (t_X9_needSite (d := d - 1) hl (by omega) e0) (by omega) rfl (Nat.le_of_ble_eq_true rfl) ?_
    refine r_aload_n (dc_X9_part 10 rfl) rfl rfl ?_
    obtain ⟨p2, e0, h⟩ := Option.bind_eq_some_iff.mp h
    refine r_getR (dc_X9_part 11 rfl) fl_RX9_12 e0 ?_
    refine r_iload_n (dc_X9_part 12 rfl) rfl rfl ?_
    obtain ⟨x3, e0, h⟩ := Option.bind_eq_some_iff.mp h
    refine r_callV (dc_X9_part 13 rfl) mv_X8_partOf ml_RX9_342 (As := [.int xa1]) (t_X8_partOf (d := d - 1) hl (by omega) e0) (by omega) rfl (Nat.le_of_ble_eq_true rfl) ?_
    cases h
    exact r_ireturn (dc_X9_part 14 rfl) rfl
  · rw [if_pos c0] at h
    refine r_aload_n (dc_X9_part 3 rfl) rfl rfl ?_
    obtain ⟨p4, e0, h⟩ := Option.bind_eq_some_iff.mp h
    refine r_getR (dc_X9_part 4 rfl) fl_RX9_12 e0 ?_
    obtain ⟨x5, e0, h⟩ := Option.bind_eq_some_iff.mp h
    refine r_callV (dc_X9_part 5 rfl) mv_X8_parts ml_RX9_339 (As := []) (t_X8_parts (d := d - 1) hl (by omega) e0) (by omega) rfl (Nat.le_of_ble_eq_true rfl) ?_
    cases h
    exact r_ireturn (dc_X9_part 6 rfl) rfl
theorem t_X9_trace {G : Gx} {d : Nat} (hl : G.1.stackTraces = false) (hd : 7 ≤ d) {σ : Sto} {a0 : Nat} {xa1 : Int32} {xa2 : Int32} {r : ((Int32 ⊕ String) × Sto)} (h : F_X9_trace σ a0 xa1 xa2 = some r) : Mi G d m_X9_trace 9 a0 [.int xa1, .int xa2] σ (toI r.1) r.2 := by
  rw [F_X9_trace] at h
  obtain ⟨hg, h⟩ := chk_some h
  refine ⟨J.toMt (lo := [(0, .ref a0), (1, .int xa1), (2, .int xa2)]) pn_RX9 rfl hl (Nat.le_of_ble_eq_true rfl) rfl ?_, hg⟩
  refine r_iload_n (dc_X9_trace 0 rfl) rfl rfl ?_
  refine r_if_lt (dc_X9_trace 1 rfl) (tgt := 15) (by decide) (fun c0 => ?_) (fun c0 => ?_)
  · rw [if_pos c0] at h
    cases h
    exact r_throwNW tl_RX9_109_113 (str_in 20 rfl) (dc_X9_trace 7 rfl) (dc_X9_trace 8 rfl) (dc_X9_trace 9 rfl) (dc_X9_trace 10 rfl) (dc_X9_trace 11 rfl) rfl (by omega) (Nat.le_of_ble_eq_true rfl)
  · rw [if_neg c0] at h
    refine r_iload_n (dc_X9_trace 2 rfl) rfl rfl ?_
    refine r_aload_n (dc_X9_trace 3 rfl) rfl rfl ?_
    obtain ⟨p1, e0, h⟩ := Option.bind_eq_some_iff.mp h
    refine r_getR (dc_X9_trace 4 rfl) fl_RX9_23 e0 ?_
    obtain ⟨x2, e0, h⟩ := Option.bind_eq_some_iff.mp h
    refine r_getI (dc_X9_trace 5 rfl) fl_RX9_345 e0 ?_
    refine r_icmp_lt (dc_X9_trace 6 rfl) (tgt := 26) (by decide) (fun c0 => ?_) (fun c0 => ?_)
    · rw [if_pos c0] at h
      refine r_aload_n (dc_X9_trace 12 rfl) rfl rfl ?_
      refine r_iload_n (dc_X9_trace 13 rfl) rfl rfl ?_
      refine r_iconst (dc_X9_trace 14 rfl) kiconst_4 ?_
      rcases tb_some h with ⟨u0, s3, e0, h⟩ | ⟨E0, s3, e0, h⟩
      rotate_left
      · subst h
        exact r_callVX (dc_X9_trace 15 rfl) mv_X9_needWhat ml_RX9_166 (As := [.int xa2, .int (4 : Int32)]) (t_X9_needWhat (d := d - 1) hl (by omega) e0) (by omega) rfl (Nat.le_of_ble_eq_true rfl) rfl
      refine r_callV (dc_X9_trace 15 rfl) mv_X9_needWhat ml_RX9_166 (As := [.int xa2, .int (4 : Int32)]) (t_X9_needWhat (d := d - 1) hl (by omega) e0) (by omega) rfl (Nat.le_of_ble_eq_true rfl) ?_
      refine r_aload_n (dc_X9_trace 16 rfl) rfl rfl ?_
      obtain ⟨p4, e0, h⟩ := Option.bind_eq_some_iff.mp h
      refine r_getR (dc_X9_trace 17 rfl) fl_RX9_23 e0 ?_
      refine r_iload_n (dc_X9_trace 18 rfl) rfl rfl ?_
      refine r_iload_n (dc_X9_trace 19 rfl) rfl rfl ?_
      obtain ⟨x5, e0, h⟩ := Option.bind_eq_some_iff.mp h
      refine r_callV (dc_X9_trace 20 rfl) mv_X7_told ml_RX9_348 (As := [.int xa1, .int xa2]) (t_X7_told (d := d - 1) hl (by omega) e0) (by omega) rfl (Nat.le_of_ble_eq_true rfl) ?_
      cases h
      exact r_ireturn (dc_X9_trace 21 rfl) rfl
    · rw [if_neg c0] at h
      cases h
      exact r_throwNW tl_RX9_109_113 (str_in 20 rfl) (dc_X9_trace 7 rfl) (dc_X9_trace 8 rfl) (dc_X9_trace 9 rfl) (dc_X9_trace 10 rfl) (dc_X9_trace 11 rfl) rfl (by omega) (Nat.le_of_ble_eq_true rfl)
theorem t_X9_gossip {G : Gx} {d : Nat} (hl : G.1.stackTraces = false) (hd : 7 ≤ d) {σ : Sto} {a0 : Nat} {xa1 : Int32} {r : ((Int32 ⊕ String) × Sto)} (h : F_X9_gossip σ a0 xa1 = some r) : Mi G d m_X9_gossip 9 a0 [.int xa1] σ (toI r.1) r.2 := by
  rw [F_X9_gossip] at h
  obtain ⟨hg, h⟩ := chk_some h
  refine ⟨J.toMt (lo := [(0, .ref a0), (1, .int xa1)]) pn_RX9 rfl hl (Nat.le_of_ble_eq_true rfl) rfl ?_, hg⟩
  refine r_aload_n (dc_X9_gossip 0 rfl) rfl rfl ?_
  refine r_iload_n (dc_X9_gossip 1 rfl) rfl rfl ?_
  refine r_iconst (dc_X9_gossip 2 rfl) kiconst_4 ?_
  rcases tb_some h with ⟨u0, s1, e0, h⟩ | ⟨E0, s1, e0, h⟩
  rotate_left
  · subst h
    exact r_callVX (dc_X9_gossip 3 rfl) mv_X9_needWhat ml_RX9_166 (As := [.int xa1, .int (4 : Int32)]) (t_X9_needWhat (d := d - 1) hl (by omega) e0) (by omega) rfl (Nat.le_of_ble_eq_true rfl) rfl
  refine r_callV (dc_X9_gossip 3 rfl) mv_X9_needWhat ml_RX9_166 (As := [.int xa1, .int (4 : Int32)]) (t_X9_needWhat (d := d - 1) hl (by omega) e0) (by omega) rfl (Nat.le_of_ble_eq_true rfl) ?_
  refine r_aload_n (dc_X9_gossip 4 rfl) rfl rfl ?_
  obtain ⟨p2, e0, h⟩ := Option.bind_eq_some_iff.mp h
  refine r_getR (dc_X9_gossip 5 rfl) fl_RX9_32 e0 ?_
  refine r_iload_n (dc_X9_gossip 6 rfl) rfl rfl ?_
  obtain ⟨x4, s3, e0, h⟩ := wb_some h
  refine r_callV (dc_X9_gossip 7 rfl) mv_X5_playGossip ml_RX9_351 (As := [.int xa1]) (t_X5_playGossip (d := d - 1) hl (by omega) e0) (by omega) rfl (Nat.le_of_ble_eq_true rfl) ?_
  cases h
  exact r_ireturn (dc_X9_gossip 8 rfl) rfl
theorem t_X9_falling {G : Gx} {d : Nat} (hl : G.1.stackTraces = false) (hd : 7 ≤ d) {σ : Sto} {a0 : Nat} {xa1 : Int32} {xa2 : Int32} {r : ((Int32 ⊕ String) × Sto)} (h : F_X9_falling σ a0 xa1 xa2 = some r) : Mi G d m_X9_falling 9 a0 [.int xa1, .int xa2] σ (toI r.1) r.2 := by
  rw [F_X9_falling] at h
  obtain ⟨hg, h⟩ := chk_some h
  refine ⟨J.toMt (lo := [(0, .ref a0), (1, .int xa1), (2, .int xa2)]) pn_RX9 rfl hl (Nat.le_of_ble_eq_true rfl) rfl ?_, hg⟩
  refine r_aload_n (dc_X9_falling 0 rfl) rfl rfl ?_
  refine r_iload_n (dc_X9_falling 1 rfl) rfl rfl ?_
  rcases tb_some h with ⟨u0, s1, e0, h⟩ | ⟨E0, s1, e0, h⟩
  rotate_left
  · subst h
    exact r_callVX (dc_X9_falling 2 rfl) mv_X9_needSite ml_RX9_67 (As := [.int xa1]) (t_X9_needSite (d := d - 1) hl (by omega) e0) (by omega) rfl (Nat.le_of_ble_eq_true rfl) rfl
  refine r_callV (dc_X9_falling 2 rfl) mv_X9_needSite ml_RX9_67 (As := [.int xa1]) (t_X9_needSite (d := d - 1) hl (by omega) e0) (by omega) rfl (Nat.le_of_ble_eq_true rfl) ?_
  refine r_aload_n (dc_X9_falling 3 rfl) rfl rfl ?_
  refine r_iload_n (dc_X9_falling 4 rfl) rfl rfl ?_
  refine r_iconst (dc_X9_falling 5 rfl) kiconst_4 ?_
  rcases tb_some h with ⟨u0, s2, e0, h⟩ | ⟨E0, s2, e0, h⟩
  rotate_left
  · subst h
    exact r_callVX (dc_X9_falling 6 rfl) mv_X9_needWhat ml_RX9_166 (As := [.int xa2, .int (4 : Int32)]) (t_X9_needWhat (d := d - 1) hl (by omega) e0) (by omega) rfl (Nat.le_of_ble_eq_true rfl) rfl
  refine r_callV (dc_X9_falling 6 rfl) mv_X9_needWhat ml_RX9_166 (As := [.int xa2, .int (4 : Int32)]) (t_X9_needWhat (d := d - 1) hl (by omega) e0) (by omega) rfl (Nat.le_of_ble_eq_true rfl) ?_
  refine r_aload_n (dc_X9_falling 7 rfl) rfl rfl ?_
  obtain ⟨p3, e0, h⟩ := Option.bind_eq_some_iff.mp h
  refine r_getR (dc_X9_falling 8 rfl) fl_RX9_32 e0 ?_
  refine r_iload_n (dc_X9_falling 9 rfl) rfl rfl ?_
  refine r_iload_n (dc_X9_falling 10 rfl) rfl rfl ?_
  obtain ⟨x5, s4, e0, h⟩ := wb_some h
  refine r_callV (dc_X9_falling 11 rfl) mv_X5_ifFallen ml_RX9_354 (As := [.int xa1, .int xa2]) (t_X5_ifFallen (d := d - 1) hl (by omega) e0) (by omega) rfl (Nat.le_of_ble_eq_true rfl) ?_
  cases h
  exact r_ireturn (dc_X9_falling 12 rfl) rfl
theorem t_X9_joining {G : Gx} {d : Nat} (hl : G.1.stackTraces = false) (hd : 7 ≤ d) {σ : Sto} {a0 : Nat} {xa1 : Int32} {xa2 : Int32} {xa3 : Int32} {r : ((Int32 ⊕ String) × Sto)} (h : F_X9_joining σ a0 xa1 xa2 xa3 = some r) : Mi G d m_X9_joining 9 a0 [.int xa1, .int xa2, .int xa3] σ (toI r.1) r.2 := by
  rw [F_X9_joining] at h
  obtain ⟨hg, h⟩ := chk_some h
  refine ⟨J.toMt (lo := [(0, .ref a0), (1, .int xa1), (2, .int xa2), (3, .int xa3)]) pn_RX9 rfl hl (Nat.le_of_ble_eq_true rfl) rfl ?_, hg⟩
  refine r_aload_n (dc_X9_joining 0 rfl) rfl rfl ?_
  refine r_iload_n (dc_X9_joining 1 rfl) rfl rfl ?_
  refine r_iload_n (dc_X9_joining 2 rfl) rfl rfl ?_
  rcases tb_some h with ⟨u0, s1, e0, h⟩ | ⟨E0, s1, e0, h⟩
  rotate_left
  · subst h
    exact r_callVX (dc_X9_joining 3 rfl) mv_X9_needTwoSites ml_RX9_117 (As := [.int xa1, .int xa2]) (t_X9_needTwoSites (d := d - 1) hl (by omega) e0) (by omega) rfl (Nat.le_of_ble_eq_true rfl) rfl
  refine r_callV (dc_X9_joining 3 rfl) mv_X9_needTwoSites ml_RX9_117 (As := [.int xa1, .int xa2]) (t_X9_needTwoSites (d := d - 1) hl (by omega) e0) (by omega) rfl (Nat.le_of_ble_eq_true rfl) ?_
  refine r_aload_n (dc_X9_joining 4 rfl) rfl rfl ?_
  refine r_iload_n (dc_X9_joining 5 rfl) rfl rfl ?_
  refine r_iconst (dc_X9_joining 6 rfl) kiconst_4 ?_
  rcases tb_some h with ⟨u0, s2, e0, h⟩ | ⟨E0, s2, e0, h⟩
  rotate_left
  · subst h
    exact r_callVX (dc_X9_joining 7 rfl) mv_X9_needWhat ml_RX9_166 (As := [.int xa3, .int (4 : Int32)]) (t_X9_needWhat (d := d - 1) hl (by omega) e0) (by omega) rfl (Nat.le_of_ble_eq_true rfl) rfl
  refine r_callV (dc_X9_joining 7 rfl) mv_X9_needWhat ml_RX9_166 (As := [.int xa3, .int (4 : Int32)]) (t_X9_needWhat (d := d - 1) hl (by omega) e0) (by omega) rfl (Nat.le_of_ble_eq_true rfl) ?_
  refine r_aload_n (dc_X9_joining 8 rfl) rfl rfl ?_
  obtain ⟨p3, e0, h⟩ := Option.bind_eq_some_iff.mp h
  refine r_getR (dc_X9_joining 9 rfl) fl_RX9_32 e0 ?_
  refine r_iload_n (dc_X9_joining 10 rfl) rfl rfl ?_
  refine r_iload_n (dc_X9_joining 11 rfl) rfl rfl ?_
  refine r_iload_n (dc_X9_joining 12 rfl) rfl rfl ?_
  obtain ⟨x5, s4, e0, h⟩ := wb_some h
  refine r_callV (dc_X9_joining 13 rfl) mv_X5_ifJoined ml_RX9_357 (As := [.int xa1, .int xa2, .int xa3]) (t_X5_ifJoined (d := d - 1) hl (by omega) e0) (by omega) rfl (Nat.le_of_ble_eq_true rfl) ?_
  cases h
  exact r_ireturn (dc_X9_joining 14 rfl) rfl
theorem t_X9_best {G : Gx} {d : Nat} (hl : G.1.stackTraces = false) (hd : 7 ≤ d) {σ : Sto} {a0 : Nat} {xa1 : Int32} {r : ((Int32 ⊕ String) × Sto)} (h : F_X9_best σ a0 xa1 = some r) : Mi G d m_X9_best 9 a0 [.int xa1] σ (toI r.1) r.2 := by
  rw [F_X9_best] at h
  obtain ⟨hg, h⟩ := chk_some h
  refine ⟨J.toMt (lo := [(0, .ref a0), (1, .int xa1)]) pn_RX9 rfl hl (Nat.le_of_ble_eq_true rfl) rfl ?_, hg⟩
  refine r_aload_n (dc_X9_best 0 rfl) rfl rfl ?_
  refine r_iload_n (dc_X9_best 1 rfl) rfl rfl ?_
  rcases tb_some h with ⟨u0, s1, e0, h⟩ | ⟨E0, s1, e0, h⟩
  rotate_left
  · subst h
    exact r_callVX (dc_X9_best 2 rfl) mv_X9_needSite ml_RX9_67 (As := [.int xa1]) (t_X9_needSite (d := d - 1) hl (by omega) e0) (by omega) rfl (Nat.le_of_ble_eq_true rfl) rfl
  refine r_callV (dc_X9_best 2 rfl) mv_X9_needSite ml_RX9_67 (As := [.int xa1]) (t_X9_needSite (d := d - 1) hl (by omega) e0) (by omega) rfl (Nat.le_of_ble_eq_true rfl) ?_
  refine r_aload_n (dc_X9_best 3 rfl) rfl rfl ?_
  obtain ⟨p2, e0, h⟩ := Option.bind_eq_some_iff.mp h
  refine r_getR (dc_X9_best 4 rfl) fl_RX9_32 e0 ?_
  refine r_iload_n (dc_X9_best 5 rfl) rfl rfl ?_
  obtain ⟨x4, s3, e0, h⟩ := wb_some h
  refine r_callV (dc_X9_best 6 rfl) mv_X5_bestToJoin ml_RX9_360 (As := [.int xa1]) (t_X5_bestToJoin (d := d - 1) hl (by omega) e0) (by omega) rfl (Nat.le_of_ble_eq_true rfl) ?_
  cases h
  exact r_ireturn (dc_X9_best 7 rfl) rfl
theorem t_X9_count {G : Gx} {d : Nat} (hl : G.1.stackTraces = false) (hd : 6 ≤ d) {σ : Sto} {a0 : Nat} {xa1 : Int32} {r : (Int32 × Sto)} (h : F_X9_count σ a0 xa1 = some r) : Mi G d m_X9_count 9 a0 [.int xa1] σ (.inl (some (.int r.1))) r.2 := by
  rw [F_X9_count] at h
  obtain ⟨hg, h⟩ := chk_some h
  refine ⟨J.toMt (lo := [(0, .ref a0), (1, .int xa1)]) pn_RX9 rfl hl (Nat.le_of_ble_eq_true rfl) rfl ?_, hg⟩
  refine r_iload_n (dc_X9_count 0 rfl) rfl rfl ?_
  by_cases c0 : xa1 = (0 : Int32)
  · rw [if_pos c0] at h
    refine r_tsInE c0 (dc_X9_count 1 rfl) (tgt := 72) (off := 71) (by decide) (by decide) (by decide) (by decide) ?_
    refine r_aload_n (dc_X9_count 2 rfl) rfl rfl ?_
    obtain ⟨p1, e0, h⟩ := Option.bind_eq_some_iff.mp h
    refine r_getR (dc_X9_count 3 rfl) fl_RX9_12 e0 ?_
    obtain ⟨x2, e0, h⟩ := Option.bind_eq_some_iff.mp h
    refine r_getI (dc_X9_count 4 rfl) fl_RX9_330 e0 ?_
    cases h
    exact r_ireturn (dc_X9_count 5 rfl) rfl
  rw [if_neg c0] at h
  by_cases c1 : xa1 = (1 : Int32)
  · rw [if_pos c1] at h
    refine r_tsInE c1 (dc_X9_count 1 rfl) (tgt := 80) (off := 79) (by decide) (by decide) (by decide) (by decide) ?_
    refine r_aload_n (dc_X9_count 6 rfl) rfl rfl ?_
    obtain ⟨p3, e0, h⟩ := Option.bind_eq_some_iff.mp h
    refine r_getR (dc_X9_count 7 rfl) fl_RX9_12 e0 ?_
    obtain ⟨x4, e0, h⟩ := Option.bind_eq_some_iff.mp h
    refine r_getI (dc_X9_count 8 rfl) fl_RX9_63 e0 ?_
    cases h
    exact r_ireturn (dc_X9_count 9 rfl) rfl
  rw [if_neg c1] at h
  by_cases c2 : xa1 = (2 : Int32)
  · rw [if_pos c2] at h
    refine r_tsInE c2 (dc_X9_count 1 rfl) (tgt := 88) (off := 87) (by decide) (by decide) (by decide) (by decide) ?_
    refine r_aload_n (dc_X9_count 10 rfl) rfl rfl ?_
    obtain ⟨p5, e0, h⟩ := Option.bind_eq_some_iff.mp h
    refine r_getR (dc_X9_count 11 rfl) fl_RX9_12 e0 ?_
    obtain ⟨p6, e0, h⟩ := Option.bind_eq_some_iff.mp h
    refine r_getR (dc_X9_count 12 rfl) fl_RX9_84 e0 ?_
    obtain ⟨x7, e0, h⟩ := Option.bind_eq_some_iff.mp h
    refine r_getI (dc_X9_count 13 rfl) fl_RX9_205 e0 ?_
    cases h
    exact r_ireturn (dc_X9_count 14 rfl) rfl
  rw [if_neg c2] at h
  by_cases c3 : xa1 = (3 : Int32)
  · rw [if_pos c3] at h
    refine r_tsInE c3 (dc_X9_count 1 rfl) (tgt := 99) (off := 98) (by decide) (by decide) (by decide) (by decide) ?_
    refine r_aload_n (dc_X9_count 15 rfl) rfl rfl ?_
    obtain ⟨p8, e0, h⟩ := Option.bind_eq_some_iff.mp h
    refine r_getR (dc_X9_count 16 rfl) fl_RX9_12 e0 ?_
    obtain ⟨x9, e0, h⟩ := Option.bind_eq_some_iff.mp h
    refine r_callV (dc_X9_count 17 rfl) mv_X8_lettersThatWait ml_RX9_371 (As := []) (t_X8_lettersThatWait (d := d - 1) hl (by omega) e0) (by omega) rfl (Nat.le_of_ble_eq_true rfl) ?_
    cases h
    exact r_ireturn (dc_X9_count 18 rfl) rfl
  rw [if_neg c3] at h
  by_cases c4 : xa1 = (4 : Int32)
  · rw [if_pos c4] at h
    refine r_tsInE c4 (dc_X9_count 1 rfl) (tgt := 107) (off := 106) (by decide) (by decide) (by decide) (by decide) ?_
    refine r_aload_n (dc_X9_count 19 rfl) rfl rfl ?_
    obtain ⟨p10, e0, h⟩ := Option.bind_eq_some_iff.mp h
    refine r_getR (dc_X9_count 20 rfl) fl_RX9_12 e0 ?_
    obtain ⟨x11, e0, h⟩ := Option.bind_eq_some_iff.mp h
    refine r_getI (dc_X9_count 21 rfl) fl_RX9_374 e0 ?_
    cases h
    exact r_ireturn (dc_X9_count 22 rfl) rfl
  rw [if_neg c4] at h
  by_cases c5 : xa1 = (5 : Int32)
  · rw [if_pos c5] at h
    refine r_tsInE c5 (dc_X9_count 1 rfl) (tgt := 115) (off := 114) (by decide) (by decide) (by decide) (by decide) ?_
    refine r_aload_n (dc_X9_count 23 rfl) rfl rfl ?_
    obtain ⟨p12, e0, h⟩ := Option.bind_eq_some_iff.mp h
    refine r_getR (dc_X9_count 24 rfl) fl_RX9_12 e0 ?_
    obtain ⟨x13, e0, h⟩ := Option.bind_eq_some_iff.mp h
    refine r_getI (dc_X9_count 25 rfl) fl_RX9_377 e0 ?_
    cases h
    exact r_ireturn (dc_X9_count 26 rfl) rfl
  rw [if_neg c5] at h
  by_cases c6 : xa1 = (6 : Int32)
  · rw [if_pos c6] at h
    refine r_tsInE c6 (dc_X9_count 1 rfl) (tgt := 123) (off := 122) (by decide) (by decide) (by decide) (by decide) ?_
    refine r_aload_n (dc_X9_count 27 rfl) rfl rfl ?_
    obtain ⟨p14, e0, h⟩ := Option.bind_eq_some_iff.mp h
    refine r_getR (dc_X9_count 28 rfl) fl_RX9_12 e0 ?_
    obtain ⟨x15, e0, h⟩ := Option.bind_eq_some_iff.mp h
    refine r_getI (dc_X9_count 29 rfl) fl_RX9_380 e0 ?_
    cases h
    exact r_ireturn (dc_X9_count 30 rfl) rfl
  rw [if_neg c6] at h
  by_cases c7 : xa1 = (7 : Int32)
  · rw [if_pos c7] at h
    refine r_tsInE c7 (dc_X9_count 1 rfl) (tgt := 131) (off := 130) (by decide) (by decide) (by decide) (by decide) ?_
    refine r_aload_n (dc_X9_count 31 rfl) rfl rfl ?_
    obtain ⟨p16, e0, h⟩ := Option.bind_eq_some_iff.mp h
    refine r_getR (dc_X9_count 32 rfl) fl_RX9_32 e0 ?_
    obtain ⟨x18, s17, e0, h⟩ := wb_some h
    refine r_callV (dc_X9_count 33 rfl) mv_X5_overstatedCells ml_RX9_383 (As := []) (t_X5_overstatedCells (d := d - 1) hl (by omega) e0) (by omega) rfl (Nat.le_of_ble_eq_true rfl) ?_
    cases h
    exact r_ireturn (dc_X9_count 34 rfl) rfl
  rw [if_neg c7] at h
  by_cases c8 : xa1 = (8 : Int32)
  · rw [if_pos c8] at h
    refine r_tsInE c8 (dc_X9_count 1 rfl) (tgt := 139) (off := 138) (by decide) (by decide) (by decide) (by decide) ?_
    refine r_aload_n (dc_X9_count 35 rfl) rfl rfl ?_
    obtain ⟨p19, e0, h⟩ := Option.bind_eq_some_iff.mp h
    refine r_getR (dc_X9_count 36 rfl) fl_RX9_32 e0 ?_
    obtain ⟨x21, s20, e0, h⟩ := wb_some h
    refine r_callV (dc_X9_count 37 rfl) mv_X5_firstOverstated ml_RX9_386 (As := []) (t_X5_firstOverstated (d := d - 1) hl (by omega) e0) (by omega) rfl (Nat.le_of_ble_eq_true rfl) ?_
    cases h
    exact r_ireturn (dc_X9_count 38 rfl) rfl
  rw [if_neg c8] at h
  by_cases c9 : xa1 = (9 : Int32)
  · rw [if_pos c9] at h
    refine r_tsInE c9 (dc_X9_count 1 rfl) (tgt := 147) (off := 146) (by decide) (by decide) (by decide) (by decide) ?_
    refine r_aload_n (dc_X9_count 39 rfl) rfl rfl ?_
    obtain ⟨p22, e0, h⟩ := Option.bind_eq_some_iff.mp h
    refine r_getR (dc_X9_count 40 rfl) fl_RX9_32 e0 ?_
    obtain ⟨x24, s23, e0, h⟩ := wb_some h
    refine r_callV (dc_X9_count 41 rfl) mv_X5_lostInAll ml_RX9_389 (As := []) (t_X5_lostInAll (d := d - 1) hl (by omega) e0) (by omega) rfl (Nat.le_of_ble_eq_true rfl) ?_
    cases h
    exact r_ireturn (dc_X9_count 42 rfl) rfl
  rw [if_neg c9] at h
  by_cases c10 : xa1 = (10 : Int32)
  · rw [if_pos c10] at h
    refine r_tsInE c10 (dc_X9_count 1 rfl) (tgt := 155) (off := 154) (by decide) (by decide) (by decide) (by decide) ?_
    refine r_aload_n (dc_X9_count 43 rfl) rfl rfl ?_
    obtain ⟨p25, e0, h⟩ := Option.bind_eq_some_iff.mp h
    refine r_getR (dc_X9_count 44 rfl) fl_RX9_32 e0 ?_
    obtain ⟨x27, s26, e0, h⟩ := wb_some h
    refine r_callV (dc_X9_count 45 rfl) mv_X5_heldByAll ml_RX9_262 (As := []) (t_X5_heldByAll (d := d - 1) hl (by omega) e0) (by omega) rfl (Nat.le_of_ble_eq_true rfl) ?_
    cases h
    exact r_ireturn (dc_X9_count 46 rfl) rfl
  rw [if_neg c10] at h
  by_cases c11 : xa1 = (11 : Int32)
  · rw [if_pos c11] at h
    refine r_tsInE c11 (dc_X9_count 1 rfl) (tgt := 163) (off := 162) (by decide) (by decide) (by decide) (by decide) ?_
    refine r_aload_n (dc_X9_count 47 rfl) rfl rfl ?_
    obtain ⟨p28, e0, h⟩ := Option.bind_eq_some_iff.mp h
    refine r_getR (dc_X9_count 48 rfl) fl_RX9_12 e0 ?_
    obtain ⟨x29, e0, h⟩ := Option.bind_eq_some_iff.mp h
    refine r_callV (dc_X9_count 49 rfl) mv_X8_viewsAreAlike ml_RX9_392 (As := []) (t_X8_viewsAreAlike (d := d - 1) hl (by omega) e0) (by omega) rfl (Nat.le_of_ble_eq_true rfl) ?_
    refine r_if_eq (dc_X9_count 50 rfl) (tgt := 177) (by decide) (fun c0 => ?_) (fun c0 => ?_)
    · rw [if_pos c0] at h
      refine r_iconst (dc_X9_count 53 rfl) kiconst_0 ?_
      cases h
      exact r_ireturn (dc_X9_count 54 rfl) rfl
    · rw [if_neg c0] at h
      refine r_iconst (dc_X9_count 51 rfl) kiconst_1 ?_
      refine r_goto (dc_X9_count 52 rfl) (tgt := 178) (by decide) ?_
      cases h
      exact r_ireturn (dc_X9_count 54 rfl) rfl
  rw [if_neg c11] at h
  by_cases c12 : xa1 = (12 : Int32)
  · rw [if_pos c12] at h
    refine r_tsInE c12 (dc_X9_count 1 rfl) (tgt := 179) (off := 178) (by decide) (by decide) (by decide) (by decide) ?_
    refine r_aload_n (dc_X9_count 55 rfl) rfl rfl ?_
    obtain ⟨p30, e0, h⟩ := Option.bind_eq_some_iff.mp h
    refine r_getR (dc_X9_count 56 rfl) fl_RX9_12 e0 ?_
    obtain ⟨x31, e0, h⟩ := Option.bind_eq_some_iff.mp h
    refine r_getI (dc_X9_count 57 rfl) fl_RX9_395 e0 ?_
    cases h
    exact r_ireturn (dc_X9_count 58 rfl) rfl
  rw [if_neg c12] at h
  by_cases c13 : xa1 = (13 : Int32)
  · rw [if_pos c13] at h
    refine r_tsInE c13 (dc_X9_count 1 rfl) (tgt := 187) (off := 186) (by decide) (by decide) (by decide) (by decide) ?_
    refine r_aload_n (dc_X9_count 59 rfl) rfl rfl ?_
    obtain ⟨p32, e0, h⟩ := Option.bind_eq_some_iff.mp h
    refine r_getR (dc_X9_count 60 rfl) fl_RX9_12 e0 ?_
    obtain ⟨x33, e0, h⟩ := Option.bind_eq_some_iff.mp h
    refine r_callV (dc_X9_count 61 rfl) mv_X8_cutLinks ml_RX9_397 (As := []) (t_X8_cutLinks (d := d - 1) hl (by omega) e0) (by omega) rfl (Nat.le_of_ble_eq_true rfl) ?_
    cases h
    exact r_ireturn (dc_X9_count 62 rfl) rfl
  rw [if_neg c13] at h
  refine r_tsOut (dc_X9_count 1 rfl) (tgt := 195) (ts_out (n := 14) (fun k hk => match k, hk with | 0, _ => c0 | 1, _ => c1 | 2, _ => c2 | 3, _ => c3 | 4, _ => c4 | 5, _ => c5 | 6, _ => c6 | 7, _ => c7 | 8, _ => c8 | 9, _ => c9 | 10, _ => c10 | 11, _ => c11 | 12, _ => c12 | 13, _ => c13 | k + 14, hk => absurd hk (by omega)) (by decide)) (by decide) ?_
  refine r_iconst (dc_X9_count 63 rfl) kiconst_m1 ?_
  cases h
  exact r_ireturn (dc_X9_count 64 rfl) rfl
