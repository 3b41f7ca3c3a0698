theorem t_X6_adopt {G : Gx} {d : Nat} (hl : G.1.stackTraces = false) (hd : 3 ≤ d) {σ : Sto} {a0 : Nat} {pa1 : Nat} {xa2 : Int32} {xa3 : Int32} {xa4 : Int32} {xa5 : Int32} {r : Sto} (h : F_X6_adopt σ a0 pa1 xa2 xa3 xa4 xa5 = some r) : Mi G d m_X6_adopt 6 a0 [.ref pa1, .int xa2, .int xa3, .int xa4, .int xa5] σ (.inl none) r := by
  rw [F_X6_adopt] at h
  obtain ⟨hg, h⟩ := chk_some h
  refine ⟨J.toMt (lo := [(0, .ref a0), (1, .ref pa1), (2, .int xa2), (3, .int xa3), (4, .int xa4), (5, .int xa5)]) pn_RX6 rfl hl (Nat.le_of_ble_eq_true rfl) rfl ?_, hg⟩
  refine r_aload_n (dc_X6_adopt 0 rfl) rfl rfl ?_
  obtain ⟨p1, e0, h⟩ := Option.bind_eq_some_iff.mp h
  refine r_getR (dc_X6_adopt 1 rfl) fl_RX6_12 e0 ?_
  refine r_aload_n (dc_X6_adopt 2 rfl) rfl rfl ?_
  obtain ⟨p2, e0, h⟩ := Option.bind_eq_some_iff.mp h
  refine r_getR (dc_X6_adopt 3 rfl) fl_RX6_12 e0 ?_
  obtain ⟨s3, e0, h⟩ := Option.bind_eq_some_iff.mp h
  refine r_callV (dc_X6_adopt 4 rfl) mv_X1_copyOf ml_RX6_41 (As := [.ref p2]) (t_X1_copyOf (d := d - 1) hl (by omega) e0) (by omega) rfl (Nat.le_of_ble_eq_true rfl) ?_
  refine r_aload_n (dc_X6_adopt 5 rfl) rfl rfl ?_
  refine r_aload_n (dc_X6_adopt 6 rfl) rfl rfl ?_
  obtain ⟨s4, e0, h⟩ := Option.bind_eq_some_iff.mp h
  refine r_callV (dc_X6_adopt 7 rfl) mv_X6_copyLog ml_RX6_45 (As := [.ref pa1]) (t_X6_copyLog (d := d - 1) hl (by omega) e0) (by omega) rfl (Nat.le_of_ble_eq_true rfl) ?_
  refine r_iconst (dc_X6_adopt 8 rfl) kiconst_0 ?_
  refine r_istore (dc_X6_adopt 9 rfl) (by decide) (lo' := [(6, .int (0 : Int32)), (0, .ref a0), (1, .ref pa1), (2, .int xa2), (3, .int xa3), (4, .int xa4), (5, .int xa5)]) rfl ?_
  refine r_pick [1, 2, 3, 4, 5, 6, 0] (lo' := [(0, .ref a0), (1, .ref pa1), (2, .int xa2), (3, .int xa3), (4, .int xa4), (5, .int xa5), (6, .int (0 : Int32))]) rfl ?_
  refine l_X6_adopt_L19 hl hd (hk53 := ?_) fu _ _ h
  · intro s8 h
    refine r_aload_n (dc_X6_adopt 25 rfl) rfl rfl ?_
    obtain ⟨p9, e0, h⟩ := Option.bind_eq_some_iff.mp h
    refine r_getR (dc_X6_adopt 26 rfl) fl_RX6_18 e0 ?_
    refine r_aload_n (dc_X6_adopt 27 rfl) rfl rfl ?_
    obtain ⟨p10, e0, h⟩ := Option.bind_eq_some_iff.mp h
    refine r_getR (dc_X6_adopt 28 rfl) fl_RX6_18 e0 ?_
    obtain ⟨s11, e0, h⟩ := Option.bind_eq_some_iff.mp h
    refine r_callV (dc_X6_adopt 29 rfl) mv_X1_copyOf ml_RX6_41 (As := [.ref p10]) (t_X1_copyOf (d := d - 1) hl (by omega) e0) (by omega) rfl (Nat.le_of_ble_eq_true rfl) ?_
    refine r_aload_n (dc_X6_adopt 30 rfl) rfl rfl ?_
    obtain ⟨p12, e0, h⟩ := Option.bind_eq_some_iff.mp h
    refine r_getR (dc_X6_adopt 31 rfl) fl_RX6_25 e0 ?_
    refine r_iconst (dc_X6_adopt 32 rfl) kiconst_0 ?_
    refine r_aload_n (dc_X6_adopt 33 rfl) rfl rfl ?_
    obtain ⟨p13, e0, h⟩ := Option.bind_eq_some_iff.mp h
    refine r_getR (dc_X6_adopt 34 rfl) fl_RX6_25 e0 ?_
    refine r_iconst (dc_X6_adopt 35 rfl) kiconst_0 ?_
    refine r_bipush (dc_X6_adopt 36 rfl) kbipush_25 ?_
    obtain ⟨s14, e0, h⟩ := Option.bind_eq_some_iff.mp h
    refine r_acp (dc_X6_adopt 37 rfl) ml_RX6_49 w_acp1 w_acp2 w_acp3 (by omega) (Nat.le_of_ble_eq_true rfl) e0 ?_
    refine r_aload_n (dc_X6_adopt 38 rfl) rfl rfl ?_
    obtain ⟨p15, e0, h⟩ := Option.bind_eq_some_iff.mp h
    refine r_getR (dc_X6_adopt 39 rfl) fl_RX6_25 e0 ?_
    refine r_iload_n (dc_X6_adopt 40 rfl) rfl rfl ?_
    refine r_iconst (dc_X6_adopt 41 rfl) kiconst_0 ?_
    obtain ⟨x16, e0, h⟩ := Option.bind_eq_some_iff.mp h
    refine r_callSN (dc_X6_adopt 42 rfl) ms_X9_cell mn_RX6_67 (As := [.int xa3, .int (0 : Int32)]) (t_X9_cell (d := d - 1) hl (by omega) e0) (by omega) rfl (Nat.le_of_ble_eq_true rfl) ?_
    refine r_aload_n (dc_X6_adopt 43 rfl) rfl rfl ?_
    obtain ⟨p17, e0, h⟩ := Option.bind_eq_some_iff.mp h
    refine r_getR (dc_X6_adopt 44 rfl) fl_RX6_25 e0 ?_
    refine r_iload_n (dc_X6_adopt 45 rfl) rfl rfl ?_
    refine r_iconst (dc_X6_adopt 46 rfl) kiconst_0 ?_
    obtain ⟨x18, e0, h⟩ := Option.bind_eq_some_iff.mp h
    refine r_callSN (dc_X6_adopt 47 rfl) ms_X9_cell mn_RX6_67 (As := [.int xa2, .int (0 : Int32)]) (t_X9_cell (d := d - 1) hl (by omega) e0) (by omega) rfl (Nat.le_of_ble_eq_true rfl) ?_
    refine r_iconst (dc_X6_adopt 48 rfl) kiconst_5 ?_
    obtain ⟨s19, e0, h⟩ := Option.bind_eq_some_iff.mp h
    refine r_acp (dc_X6_adopt 49 rfl) ml_RX6_49 w_acp1 w_acp2 w_acp3 (by omega) (Nat.le_of_ble_eq_true rfl) e0 ?_
    refine r_aload_n (dc_X6_adopt 50 rfl) rfl rfl ?_
    obtain ⟨p20, e0, h⟩ := Option.bind_eq_some_iff.mp h
    refine r_getR (dc_X6_adopt 51 rfl) fl_RX6_25 e0 ?_
    refine r_iload_n (dc_X6_adopt 52 rfl) rfl rfl ?_
    refine r_iload_n (dc_X6_adopt 53 rfl) rfl rfl ?_
    obtain ⟨x21, e0, h⟩ := Option.bind_eq_some_iff.mp h
    refine r_callSN (dc_X6_adopt 54 rfl) ms_X9_cell mn_RX6_67 (As := [.int xa2, .int xa2]) (t_X9_cell (d := d - 1) hl (by omega) e0) (by omega) rfl (Nat.le_of_ble_eq_true rfl) ?_
    refine r_iload (dc_X6_adopt 55 rfl) rfl ?_
    obtain ⟨s22, e0, h⟩ := Option.bind_eq_some_iff.mp h
    refine r_iast (dc_X6_adopt 56 rfl) e0 ?_
    cases h
    exact r_vreturn (dc_X6_adopt 57 rfl) rfl
theorem t_X5_joinOnPaper {G : Gx} {d : Nat} (hl : G.1.stackTraces = false) (hd : 4 ≤ d) {σ : Sto} {a0 : Nat} {xa1 : Int32} {xa2 : Int32} {r : Sto} (h : F_X5_joinOnPaper σ a0 xa1 xa2 = some r) : Mi G d m_X5_joinOnPaper 5 a0 [.int xa1, .int xa2] σ (.inl none) r := by
  rw [F_X5_joinOnPaper] at h
  obtain ⟨hg, h⟩ := chk_some h
  refine ⟨J.toMt (lo := [(0, .ref a0), (1, .int xa1), (2, .int xa2)]) pn_RX5 rfl hl (Nat.le_of_ble_eq_true rfl) rfl ?_, hg⟩
  refine r_aload_n (dc_X5_joinOnPaper 0 rfl) rfl rfl ?_
  obtain ⟨p1, e0, h⟩ := Option.bind_eq_some_iff.mp h
  refine r_getR (dc_X5_joinOnPaper 1 rfl) fl_RX5_11 e0 ?_
  refine r_iload_n (dc_X5_joinOnPaper 2 rfl) rfl rfl ?_
  obtain ⟨p2, e0, h⟩ := Option.bind_eq_some_iff.mp h
  refine r_aaldR (dc_X5_joinOnPaper 3 rfl) (kd := 4) rfl e0 ?_
  refine r_aload_n (dc_X5_joinOnPaper 4 rfl) rfl rfl ?_
  obtain ⟨p3, e0, h⟩ := Option.bind_eq_some_iff.mp h
  refine r_getR (dc_X5_joinOnPaper 5 rfl) fl_RX5_40 e0 ?_
  obtain ⟨p4, e0, h⟩ := Option.bind_eq_some_iff.mp h
  refine r_getR (dc_X5_joinOnPaper 6 rfl) fl_RX5_66 e0 ?_
  refine r_iload_n (dc_X5_joinOnPaper 7 rfl) rfl rfl ?_
  obtain ⟨p5, e0, h⟩ := Option.bind_eq_some_iff.mp h
  refine r_aaldR (dc_X5_joinOnPaper 8 rfl) (kd := 4) rfl e0 ?_
  refine r_iload_n (dc_X5_joinOnPaper 9 rfl) rfl rfl ?_
  refine r_iload_n (dc_X5_joinOnPaper 10 rfl) rfl rfl ?_
  refine r_aload_n (dc_X5_joinOnPaper 11 rfl) rfl rfl ?_
  obtain ⟨p6, e0, h⟩ := Option.bind_eq_some_iff.mp h
  refine r_getR (dc_X5_joinOnPaper 12 rfl) fl_RX5_40 e0 ?_
  obtain ⟨p7, e0, h⟩ := Option.bind_eq_some_iff.mp h
  refine r_getR (dc_X5_joinOnPaper 13 rfl) fl_RX5_50 e0 ?_
  obtain ⟨p8, e0, h⟩ := Option.bind_eq_some_iff.mp h
  refine r_getR (dc_X5_joinOnPaper 14 rfl) fl_RX5_219 e0 ?_
  refine r_iload_n (dc_X5_joinOnPaper 15 rfl) rfl rfl ?_
  obtain ⟨x9, e0, h⟩ := Option.bind_eq_some_iff.mp h
  refine r_iald (dc_X5_joinOnPaper 16 rfl) e0 ?_
  refine r_aload_n (dc_X5_joinOnPaper 17 rfl) rfl rfl ?_
  obtain ⟨p10, e0, h⟩ := Option.bind_eq_some_iff.mp h
  refine r_getR (dc_X5_joinOnPaper 18 rfl) fl_RX5_40 e0 ?_
  obtain ⟨x11, e0, h⟩ := Option.bind_eq_some_iff.mp h
  refine r_getI (dc_X5_joinOnPaper 19 rfl) fl_RX5_199 e0 ?_
  obtain ⟨s12, e0, h⟩ := Option.bind_eq_some_iff.mp h
  refine r_callV (dc_X5_joinOnPaper 20 rfl) mv_X6_adopt ml_RX5_222 (As := [.ref p5, .int xa1, .int xa2, .int x9, .int x11]) (t_X6_adopt (d := d - 1) hl (by omega) e0) (by omega) rfl (Nat.le_of_ble_eq_true rfl) ?_
  cases h
  exact r_vreturn (dc_X5_joinOnPaper 21 rfl) rfl
theorem t_X5_ifJoined {G : Gx} {d : Nat} (hl : G.1.stackTraces = false) (hd : 6 ≤ d) {σ : Sto} {a0 : Nat} {xa1 : Int32} {xa2 : Int32} {xa3 : Int32} {r : (Int32 × Sto)} (h : F_X5_ifJoined σ a0 xa1 xa2 xa3 = some r) : Mi G d m_X5_ifJoined 5 a0 [.int xa1, .int xa2, .int xa3] σ (.inl (some (.int r.1))) r.2 := by
  rw [F_X5_ifJoined] at h
  obtain ⟨hg, h⟩ := chk_some h
  refine ⟨J.toMt (lo := [(0, .ref a0), (1, .int xa1), (2, .int xa2), (3, .int xa3)]) pn_RX5 rfl hl (Nat.le_of_ble_eq_true rfl) rfl ?_, hg⟩
  refine r_aload_n (dc_X5_ifJoined 0 rfl) rfl rfl ?_
  refine r_iload_n (dc_X5_ifJoined 1 rfl) rfl rfl ?_
  refine r_iload_n (dc_X5_ifJoined 2 rfl) rfl rfl ?_
  obtain ⟨s1, e0, h⟩ := Option.bind_eq_some_iff.mp h
  refine r_callV (dc_X5_ifJoined 3 rfl) mv_X5_joinOnPaper ml_RX5_216 (As := [.int xa1, .int xa2]) (t_X5_joinOnPaper (d := d - 1) hl (by omega) e0) (by omega) rfl (Nat.le_of_ble_eq_true rfl) ?_
  refine r_aload_n (dc_X5_ifJoined 4 rfl) rfl rfl ?_
  refine r_iload_n (dc_X5_ifJoined 5 rfl) rfl rfl ?_
  refine r_iload_n (dc_X5_ifJoined 6 rfl) rfl rfl ?_
  obtain ⟨x3, s2, e0, h⟩ := wb_some h
  refine r_callV (dc_X5_ifJoined 7 rfl) mv_X5_reckonWith ml_RX5_213 (As := [.int xa1, .int xa3]) (t_X5_reckonWith (d := d - 1) hl (by omega) e0) (by omega) rfl (Nat.le_of_ble_eq_true rfl) ?_
  cases h
  exact r_ireturn (dc_X5_ifJoined 8 rfl) rfl
theorem l_X5_bestToJoin_L21 {G : Gx} {d : Nat} (hl : G.1.stackTraces = false) (hd : 5 ≤ d) {pL0 : Nat} {xL1 : Int32} {pL2 : Nat} {r : (Int32 × Sto)} {k138 : Int32 → Sto → Option (Int32 × Sto)}
    (hk138 : ∀ (xL3 : Int32) (sL : Sto), k138 xL3 sL = some r → J G d m_X5_bestToJoin 138 [(3, .int xL3)] [] sL (.inl (some (.int r.1))) r.2)
  : ∀ (f : Nat) (xL3 : Int32) (xL4 : Int32) (xL5 : Int32) (xL6 : Int32) (sL : Sto), F_X5_bestToJoin_L21 pL0 xL1 pL2 f xL3 xL4 xL5 xL6 sL k138 = some r → J G d m_X5_bestToJoin 21 [(0, .ref pL0), (1, .int xL1), (2, .ref pL2), (3, .int xL3), (4, .int xL4), (5, .int xL5), (6, .int xL6)] [] sL (.inl (some (.int r.1))) r.2 := by
  intro f
  induction f with
  | zero => intro xL3 xL4 xL5 xL6 sL h; rw [F_X5_bestToJoin_L21] at h; cases h
  | succ f ih =>
    intro xL3 xL4 xL5 xL6 sL h
    rw [F_X5_bestToJoin_L21] at h
    refine r_iload (dc_X5_bestToJoin 14 rfl) rfl ?_
    refine r_aload_n (dc_X5_bestToJoin 15 rfl) rfl rfl ?_
    obtain ⟨p4, e0, h⟩ := Option.bind_eq_some_iff.mp h
    refine r_getR (dc_X5_bestToJoin 16 rfl) fl_RX5_40 e0 ?_
    obtain ⟨x5, e0, h⟩ := Option.bind_eq_some_iff.mp h
    refine r_getI (dc_X5_bestToJoin 17 rfl) fl_RX5_45 e0 ?_
    refine r_icmp_ge (dc_X5_bestToJoin 18 rfl) (tgt := 138) (by decide) (fun c0 => ?_) (fun c0 => ?_)
    · rw [if_pos c0] at h
      refine r_pick [3] (lo' := [(3, .int xL3)]) rfl ?_
      exact hk138 _ _ h
    · rw [if_neg c0] at h
      refine r_iload (dc_X5_bestToJoin 19 rfl) rfl ?_
      refine r_iload_n (dc_X5_bestToJoin 20 rfl) rfl rfl ?_
      refine r_icmp_ne (dc_X5_bestToJoin 21 rfl) (tgt := 42) (by decide) (fun c0 => ?_) (fun c0 => ?_)
      · rw [if_neg c0] at h
        refine r_aload_n (dc_X5_bestToJoin 23 rfl) rfl rfl ?_
        refine r_iload_n (dc_X5_bestToJoin 24 rfl) rfl rfl ?_
        refine r_iload (dc_X5_bestToJoin 25 rfl) rfl ?_
        obtain ⟨s6, e0, h⟩ := Option.bind_eq_some_iff.mp h
        refine r_callV (dc_X5_bestToJoin 26 rfl) mv_X5_joinOnPaper ml_RX5_216 (As := [.int xL1, .int xL6]) (t_X5_joinOnPaper (d := d - 1) hl (by omega) e0) (by omega) rfl (Nat.le_of_ble_eq_true rfl) ?_
        refine r_aload_n (dc_X5_bestToJoin 27 rfl) rfl rfl ?_
        obtain ⟨p7, e0, h⟩ := Option.bind_eq_some_iff.mp h
        refine r_getR (dc_X5_bestToJoin 28 rfl) fl_RX5_40 e0 ?_
        obtain ⟨p8, e0, h⟩ := Option.bind_eq_some_iff.mp h
        refine r_getR (dc_X5_bestToJoin 29 rfl) fl_RX5_66 e0 ?_
        refine r_iload_n (dc_X5_bestToJoin 30 rfl) rfl rfl ?_
        refine r_aload_n (dc_X5_bestToJoin 31 rfl) rfl rfl ?_
        obtain ⟨p9, e0, h⟩ := Option.bind_eq_some_iff.mp h
        refine r_getR (dc_X5_bestToJoin 32 rfl) fl_RX5_11 e0 ?_
        refine r_iload_n (dc_X5_bestToJoin 33 rfl) rfl rfl ?_
        obtain ⟨p10, e0, h⟩ := Option.bind_eq_some_iff.mp h
        refine r_aaldR (dc_X5_bestToJoin 34 rfl) (kd := 4) rfl e0 ?_
        obtain ⟨s11, e0, h⟩ := Option.bind_eq_some_iff.mp h
        refine r_aast (dc_X5_bestToJoin 35 rfl) (kd := 4) rfl rfl e0 ?_
        refine r_aload_n (dc_X5_bestToJoin 36 rfl) rfl rfl ?_
        refine r_iload_n (dc_X5_bestToJoin 37 rfl) rfl rfl ?_
        obtain ⟨x13, s12, e0, h⟩ := wb_some h
        refine r_callV (dc_X5_bestToJoin 38 rfl) mv_X5_lostTo ml_RX5_137 (As := [.int xL1]) (t_X5_lostTo (d := d - 1) hl (by omega) e0) (by omega) rfl (Nat.le_of_ble_eq_true rfl) ?_
        refine r_istore (dc_X5_bestToJoin 39 rfl) (by decide) (lo' := [(7, .int x13), (0, .ref pL0), (1, .int xL1), (2, .ref pL2), (3, .int xL3), (4, .int xL4), (5, .int xL5), (6, .int xL6)]) rfl ?_
        refine r_aload_n (dc_X5_bestToJoin 40 rfl) rfl rfl ?_
        obtain ⟨p14, e0, h⟩ := Option.bind_eq_some_iff.mp h
        refine r_getR (dc_X5_bestToJoin 41 rfl) fl_RX5_40 e0 ?_
        obtain ⟨p15, e0, h⟩ := Option.bind_eq_some_iff.mp h
        refine r_getR (dc_X5_bestToJoin 42 rfl) fl_RX5_66 e0 ?_
        refine r_iload_n (dc_X5_bestToJoin 43 rfl) rfl rfl ?_
        refine r_aload_n (dc_X5_bestToJoin 44 rfl) rfl rfl ?_
        obtain ⟨s16, e0, h⟩ := Option.bind_eq_some_iff.mp h
        refine r_aast (dc_X5_bestToJoin 45 rfl) (kd := 4) rfl rfl e0 ?_
        refine r_aload_n (dc_X5_bestToJoin 46 rfl) rfl rfl ?_
        obtain ⟨p17, e0, h⟩ := Option.bind_eq_some_iff.mp h
        refine r_getR (dc_X5_bestToJoin 47 rfl) fl_RX5_11 e0 ?_
        refine r_iload_n (dc_X5_bestToJoin 48 rfl) rfl rfl ?_
        obtain ⟨p18, e0, h⟩ := Option.bind_eq_some_iff.mp h
        refine r_aaldR (dc_X5_bestToJoin 49 rfl) (kd := 4) rfl e0 ?_
        obtain ⟨p19, e0, h⟩ := Option.bind_eq_some_iff.mp h
        refine r_getR (dc_X5_bestToJoin 50 rfl) fl_RX5_69 e0 ?_
        obtain ⟨x20, e0, h⟩ := Option.bind_eq_some_iff.mp h
        refine r_callV (dc_X5_bestToJoin 51 rfl) mv_X1_size ml_RX5_107 (As := []) (t_X1_size (d := d - 1) hl (by omega) e0) (by omega) rfl (Nat.le_of_ble_eq_true rfl) ?_
        refine r_istore (dc_X5_bestToJoin 52 rfl) (by decide) (lo' := [(8, .int x20), (7, .int x13), (0, .ref pL0), (1, .int xL1), (2, .ref pL2), (3, .int xL3), (4, .int xL4), (5, .int xL5), (6, .int xL6)]) rfl ?_
        refine r_iload_n (dc_X5_bestToJoin 53 rfl) rfl rfl ?_
        refine r_iconst (dc_X5_bestToJoin 54 rfl) kiconst_m1 ?_
        refine r_icmp_eq (dc_X5_bestToJoin 55 rfl) (tgt := 121) (by decide) (fun c0 => ?_) (fun c0 => ?_)
        · rw [if_pos c0] at h
          refine r_iload (dc_X5_bestToJoin 65 rfl) rfl ?_
          refine r_istore_n (dc_X5_bestToJoin 66 rfl) rfl (by decide) (lo' := [(3, .int xL6), (8, .int x20), (7, .int x13), (0, .ref pL0), (1, .int xL1), (2, .ref pL2), (4, .int xL4), (5, .int xL5), (6, .int xL6)]) rfl ?_
          refine r_iload (dc_X5_bestToJoin 67 rfl) rfl ?_
          refine r_istore (dc_X5_bestToJoin 68 rfl) (by decide) (lo' := [(4, .int x13), (3, .int xL6), (8, .int x20), (7, .int x13), (0, .ref pL0), (1, .int xL1), (2, .ref pL2), (5, .int xL5), (6, .int xL6)]) rfl ?_
          refine r_iload (dc_X5_bestToJoin 69 rfl) rfl ?_
          refine r_istore (dc_X5_bestToJoin 70 rfl) (by decide) (lo' := [(5, .int x20), (4, .int x13), (3, .int xL6), (8, .int x20), (7, .int x13), (0, .ref pL0), (1, .int xL1), (2, .ref pL2), (6, .int xL6)]) rfl ?_
          refine r_iinc (dc_X5_bestToJoin 71 rfl) rfl (kinc_1 _) (by decide) (lo' := [(6, .int (xL6 + (1 : Int32))), (5, .int x20), (4, .int x13), (3, .int xL6), (8, .int x20), (7, .int x13), (0, .ref pL0), (1, .int xL1), (2, .ref pL2)]) rfl ?_
          refine r_goto (dc_X5_bestToJoin 72 rfl) (tgt := 21) (by decide) ?_
          refine r_pick [6, 7, 8, 3, 2, 1, 0] (lo' := [(0, .ref pL0), (1, .int xL1), (2, .ref pL2), (3, .int xL6), (4, .int x13), (5, .int x20), (6, .int (xL6 + (1 : Int32)))]) rfl ?_
          exact ih _ _ _ _ _ h
        · rw [if_neg c0] at h
          refine r_iload (dc_X5_bestToJoin 56 rfl) rfl ?_
          refine r_iload (dc_X5_bestToJoin 57 rfl) rfl ?_
          refine r_icmp_lt (dc_X5_bestToJoin 58 rfl) (tgt := 121) (by decide) (fun c0 => ?_) (fun c0 => ?_)
          · rw [if_pos c0] at h
            refine r_iload (dc_X5_bestToJoin 65 rfl) rfl ?_
            refine r_istore_n (dc_X5_bestToJoin 66 rfl) rfl (by decide) (lo' := [(3, .int xL6), (8, .int x20), (7, .int x13), (0, .ref pL0), (1, .int xL1), (2, .ref pL2), (4, .int xL4), (5, .int xL5), (6, .int xL6)]) rfl ?_
            refine r_iload (dc_X5_bestToJoin 67 rfl) rfl ?_
            refine r_istore (dc_X5_bestToJoin 68 rfl) (by decide) (lo' := [(4, .int x13), (3, .int xL6), (8, .int x20), (7, .int x13), (0, .ref pL0), (1, .int xL1), (2, .ref pL2), (5, .int xL5), (6, .int xL6)]) rfl ?_
            refine r_iload (dc_X5_bestToJoin 69 rfl) rfl ?_
            refine r_istore (dc_X5_bestToJoin 70 rfl) (by decide) (lo' := [(5, .int x20), (4, .int x13), (3, .int xL6), (8, .int x20), (7, .int x13), (0, .ref pL0), (1, .int xL1), (2, .ref pL2), (6, .int xL6)]) rfl ?_
            refine r_iinc (dc_X5_bestToJoin 71 rfl) rfl (kinc_1 _) (by decide) (lo' := [(6, .int (xL6 + (1 : Int32))), (5, .int x20), (4, .int x13), (3, .int xL6), (8, .int x20), (7, .int x13), (0, .ref pL0), (1, .int xL1), (2, .ref pL2)]) rfl ?_
            refine r_goto (dc_X5_bestToJoin 72 rfl) (tgt := 21) (by decide) ?_
            refine r_pick [6, 7, 8, 3, 2, 1, 0] (lo' := [(0, .ref pL0), (1, .int xL1), (2, .ref pL2), (3, .int xL6), (4, .int x13), (5, .int x20), (6, .int (xL6 + (1 : Int32)))]) rfl ?_
            exact ih _ _ _ _ _ h
          · rw [if_neg c0] at h
            refine r_iload (dc_X5_bestToJoin 59 rfl) rfl ?_
            refine r_iload (dc_X5_bestToJoin 60 rfl) rfl ?_
            refine r_icmp_ne (dc_X5_bestToJoin 61 rfl) (tgt := 132) (by decide) (fun c0 => ?_) (fun c0 => ?_)
            · rw [if_neg c0] at h
              refine r_iinc (dc_X5_bestToJoin 71 rfl) rfl (kinc_1 _) (by decide) (lo' := [(6, .int (xL6 + (1 : Int32))), (8, .int x20), (7, .int x13), (0, .ref pL0), (1, .int xL1), (2, .ref pL2), (3, .int xL3), (4, .int xL4), (5, .int xL5)]) rfl ?_
              refine r_goto (dc_X5_bestToJoin 72 rfl) (tgt := 21) (by decide) ?_
              refine r_pick [3, 4, 5, 6, 7, 8, 0] (lo' := [(0, .ref pL0), (1, .int xL1), (2, .ref pL2), (3, .int xL3), (4, .int xL4), (5, .int xL5), (6, .int (xL6 + (1 : Int32)))]) rfl ?_
              exact ih _ _ _ _ _ h
            · rw [if_pos c0] at h
              refine r_iload (dc_X5_bestToJoin 62 rfl) rfl ?_
              refine r_iload (dc_X5_bestToJoin 63 rfl) rfl ?_
              refine r_icmp_le (dc_X5_bestToJoin 64 rfl) (tgt := 132) (by decide) (fun c0 => ?_) (fun c0 => ?_)
              · rw [if_pos c0] at h
                refine r_iinc (dc_X5_bestToJoin 71 rfl) rfl (kinc_1 _) (by decide) (lo' := [(6, .int (xL6 + (1 : Int32))), (8, .int x20), (7, .int x13), (0, .ref pL0), (1, .int xL1), (2, .ref pL2), (3, .int xL3), (4, .int xL4), (5, .int xL5)]) rfl ?_
                refine r_goto (dc_X5_bestToJoin 72 rfl) (tgt := 21) (by decide) ?_
                refine r_pick [3, 4, 5, 6, 7, 8, 0] (lo' := [(0, .ref pL0), (1, .int xL1), (2, .ref pL2), (3, .int xL3), (4, .int xL4), (5, .int xL5), (6, .int (xL6 + (1 : Int32)))]) rfl ?_
                exact ih _ _ _ _ _ h
              · rw [if_neg c0] at h
                refine r_iload (dc_X5_bestToJoin 65 rfl) rfl ?_
                refine r_istore_n (dc_X5_bestToJoin 66 rfl) rfl (by decide) (lo' := [(3, .int xL6), (8, .int x20), (7, .int x13), (0, .ref pL0), (1, .int xL1), (2, .ref pL2), (4, .int xL4), (5, .int xL5), (6, .int xL6)]) rfl ?_
                refine r_iload (dc_X5_bestToJoin 67 rfl) rfl ?_
                refine r_istore (dc_X5_bestToJoin 68 rfl) (by decide) (lo' := [(4, .int x13), (3, .int xL6), (8, .int x20), (7, .int x13), (0, .ref pL0), (1, .int xL1), (2, .ref pL2), (5, .int xL5), (6, .int xL6)]) rfl ?_
                refine r_iload (dc_X5_bestToJoin 69 rfl) rfl ?_
                refine r_istore (dc_X5_bestToJoin 70 rfl) (by decide) (lo' := [(5, .int x20), (4, .int x13), (3, .int xL6), (8, .int x20), (7, .int x13), (0, .ref pL0), (1, .int xL1), (2, .ref pL2), (6, .int xL6)]) rfl ?_
                refine r_iinc (dc_X5_bestToJoin 71 rfl) rfl (kinc_1 _) (by decide) (lo' := [(6, .int (xL6 + (1 : Int32))), (5, .int x20), (4, .int x13), (3, .int xL6), (8, .int x20), (7, .int x13), (0, .ref pL0), (1, .int xL1), (2, .ref pL2)]) rfl ?_
                refine r_goto (dc_X5_bestToJoin 72 rfl) (tgt := 21) (by decide) ?_
                refine r_pick [6, 7, 8, 3, 2, 1, 0] (lo' := [(0, .ref pL0), (1, .int xL1), (2, .ref pL2), (3, .int xL6), (4, .int x13), (5, .int x20), (6, .int (xL6 + (1 : Int32)))]) rfl ?_
                exact ih _ _ _ _ _ h
      · rw [if_pos c0] at h
        refine r_goto (dc_X5_bestToJoin 22 rfl) (tgt := 132) (by decide) ?_
        refine r_iinc (dc_X5_bestToJoin 71 rfl) rfl (kinc_1 _) (by decide) (lo' := [(6, .int (xL6 + (1 : Int32))), (0, .ref pL0), (1, .int xL1), (2, .ref pL2), (3, .int xL3), (4, .int xL4), (5, .int xL5)]) rfl ?_
        refine r_goto (dc_X5_bestToJoin 72 rfl) (tgt := 21) (by decide) ?_
        refine r_pick [1, 2, 3, 4, 5, 6, 0] (lo' := [(0, .ref pL0), (1, .int xL1), (2, .ref pL2), (3, .int xL3), (4, .int xL4), (5, .int xL5), (6, .int (xL6 + (1 : Int32)))]) rfl ?_
        exact ih _ _ _ _ _ h
theorem t_X5_bestToJoin {G : Gx} {d : Nat} (hl : G.1.stackTraces = false) (hd : 5 ≤ d) {σ : Sto} {a0 : Nat} {xa1 : Int32} {r : (Int32 × Sto)} (h : F_X5_bestToJoin σ a0 xa1 = some r) : Mi G d m_X5_bestToJoin 5 a0 [.int xa1] σ (.inl (some (.int r.1))) r.2 := by
  rw [F_X5_bestToJoin] at h
  obtain ⟨hg, h⟩ := chk_some h
  refine ⟨J.toMt (lo := [(0, .ref a0), (1, .int xa1)]) pn_RX5 rfl hl (Nat.le_of_ble_eq_true rfl) rfl ?_, hg⟩
  refine r_aload_n (dc_X5_bestToJoin 0 rfl) rfl rfl ?_
  obtain ⟨p1, e0, h⟩ := Option.bind_eq_some_iff.mp h
  refine r_getR (dc_X5_bestToJoin 1 rfl) fl_RX5_40 e0 ?_
  obtain ⟨p2, e0, h⟩ := Option.bind_eq_some_iff.mp h
  refine r_getR (dc_X5_bestToJoin 2 rfl) fl_RX5_66 e0 ?_
  refine r_iload_n (dc_X5_bestToJoin 3 rfl) rfl rfl ?_
  obtain ⟨p3, e0, h⟩ := Option.bind_eq_some_iff.mp h
  refine r_aaldR (dc_X5_bestToJoin 4 rfl) (kd := 4) rfl e0 ?_
  refine r_astore_n (dc_X5_bestToJoin 5 rfl) rfl (by decide) (lo' := [(2, .ref p3), (0, .ref a0), (1, .int xa1)]) rfl ?_
  refine r_iconst (dc_X5_bestToJoin 6 rfl) kiconst_m1 ?_
  refine r_istore_n (dc_X5_bestToJoin 7 rfl) rfl (by decide) (lo' := [(3, .int (-1 : Int32)), (2, .ref p3), (0, .ref a0), (1, .int xa1)]) rfl ?_
  refine r_iconst (dc_X5_bestToJoin 8 rfl) kiconst_0 ?_
  refine r_istore (dc_X5_bestToJoin 9 rfl) (by decide) (lo' := [(4, .int (0 : Int32)), (3, .int (-1 : Int32)), (2, .ref p3), (0, .ref a0), (1, .int xa1)]) rfl ?_
  refine r_iconst (dc_X5_bestToJoin 10 rfl) kiconst_0 ?_
  refine r_istore (dc_X5_bestToJoin 11 rfl) (by decide) (lo' := [(5, .int (0 : Int32)), (4, .int (0 : Int32)), (3, .int (-1 : Int32)), (2, .ref p3), (0, .ref a0), (1, .int xa1)]) rfl ?_
  refine r_iconst (dc_X5_bestToJoin 12 rfl) kiconst_0 ?_
  refine r_istore (dc_X5_bestToJoin 13 rfl) (by decide) (lo' := [(6, .int (0 : Int32)), (5, .int (0 : Int32)), (4, .int (0 : Int32)), (3, .int (-1 : Int32)), (2, .ref p3), (0, .ref a0), (1, .int xa1)]) rfl ?_
  refine r_pick [5, 6, 4, 3, 2, 1, 0] (lo' := [(0, .ref a0), (1, .int xa1), (2, .ref p3), (3, .int (-1 : Int32)), (4, .int (0 : Int32)), (5, .int (0 : Int32)), (6, .int (0 : Int32))]) rfl ?_
  refine l_X5_bestToJoin_L21 hl hd (hk138 := ?_) fu _ _ _ _ _ h
  · intro x21 s22 h
    refine r_iload_n (dc_X5_bestToJoin 73 rfl) rfl rfl ?_
    cases h
    exact r_ireturn (dc_X5_bestToJoin 74 rfl) rfl
theorem l_X6_clear_L21 {G : Gx} {d : Nat} (hl : G.1.stackTraces = false) (hd : 1 ≤ d) {pL0 : Nat} {r : Sto} {k40 : Sto → Option Sto}
    (hk40 : ∀ (sL : Sto), k40 sL = some r → J G d m_X6_clear 40 [] [] sL (.inl none) r)
  : ∀ (f : Nat) (xL1 : Int32) (sL : Sto), F_X6_clear_L21 pL0 f xL1 sL k40 = some r → J G d m_X6_clear 21 [(0, .ref pL0), (1, .int xL1)] [] sL (.inl none) r := by
  intro f
  induction f with
  | zero => intro xL1 sL h; rw [F_X6_clear_L21] at h; cases h
  | succ f ih =>
    intro xL1 sL h
    rw [F_X6_clear_L21] at h
    refine r_iload_n (dc_X6_clear 11 rfl) rfl rfl ?_
    refine r_bipush (dc_X6_clear 12 rfl) kbipush_25 ?_
    refine r_icmp_ge (dc_X6_clear 13 rfl) (tgt := 40) (by decide) (fun c0 => ?_) (fun c0 => ?_)
    · rw [if_pos c0] at h
      refine r_pick [] (lo' := []) rfl ?_
      exact hk40 _ h
    · rw [if_neg c0] at h
      refine r_aload_n (dc_X6_clear 14 rfl) rfl rfl ?_
      obtain ⟨p6, e0, h⟩ := Option.bind_eq_some_iff.mp h
      refine r_getR (dc_X6_clear 15 rfl) fl_RX6_25 e0 ?_
      refine r_iload_n (dc_X6_clear 16 rfl) rfl rfl ?_
      refine r_iconst (dc_X6_clear 17 rfl) kiconst_0 ?_
      obtain ⟨s7, e0, h⟩ := Option.bind_eq_some_iff.mp h
      refine r_iast (dc_X6_clear 18 rfl) e0 ?_
      refine r_iinc (dc_X6_clear 19 rfl) rfl (kinc_1 _) (by decide) (lo' := [(1, .int (xL1 + (1 : Int32))), (0, .ref pL0)]) rfl ?_
      refine r_goto (dc_X6_clear 20 rfl) (tgt := 21) (by decide) ?_
      refine r_pick [1, 0] (lo' := [(0, .ref pL0), (1, .int (xL1 + (1 : Int32)))]) rfl ?_
      exact ih _ _ h
theorem t_X6_clear {G : Gx} {d : Nat} (hl : G.1.stackTraces = false) (hd : 1 ≤ d) {σ : Sto} {a0 : Nat} {r : Sto} (h : F_X6_clear σ a0 = some r) : Mi G d m_X6_clear 6 a0 [] σ (.inl none) r := by
  rw [F_X6_clear] at h
  obtain ⟨hg, h⟩ := chk_some h
  refine ⟨J.toMt (lo := [(0, .ref a0)]) pn_RX6 rfl hl (Nat.le_of_ble_eq_true rfl) rfl ?_, hg⟩
  refine r_aload_n (dc_X6_clear 0 rfl) rfl rfl ?_
  obtain ⟨p1, e0, h⟩ := Option.bind_eq_some_iff.mp h
  refine r_getR (dc_X6_clear 1 rfl) fl_RX6_12 e0 ?_
  obtain ⟨s2, e0, h⟩ := Option.bind_eq_some_iff.mp h
  refine r_callV (dc_X6_clear 2 rfl) mv_X1_clear ml_RX6_34 (As := []) (t_X1_clear (d := d - 1) hl (by omega) e0) (by omega) rfl (Nat.le_of_ble_eq_true rfl) ?_
  refine r_aload_n (dc_X6_clear 3 rfl) rfl rfl ?_
  obtain ⟨p3, e0, h⟩ := Option.bind_eq_some_iff.mp h
  refine r_getR (dc_X6_clear 4 rfl) fl_RX6_18 e0 ?_
  obtain ⟨s4, e0, h⟩ := Option.bind_eq_some_iff.mp h
  refine r_callV (dc_X6_clear 5 rfl) mv_X1_clear ml_RX6_34 (As := []) (t_X1_clear (d := d - 1) hl (by omega) e0) (by omega) rfl (Nat.le_of_ble_eq_true rfl) ?_
  refine r_aload_n (dc_X6_clear 6 rfl) rfl rfl ?_
  refine r_iconst (dc_X6_clear 7 rfl) kiconst_0 ?_
  obtain ⟨s5, e0, h⟩ := Option.bind_eq_some_iff.mp h
  refine r_put (dc_X6_clear 8 rfl) pl_RX6_37 rfl e0 ?_
  refine r_iconst (dc_X6_clear 9 rfl) kiconst_0 ?_
  refine r_istore_n (dc_X6_clear 10 rfl) rfl (by decide) (lo' := [(1, .int (0 : Int32)), (0, .ref a0)]) rfl ?_
  refine r_pick [1, 0] (lo' := [(0, .ref a0), (1, .int (0 : Int32))]) rfl ?_
  refine l_X6_clear_L21 hl hd (hk40 := ?_) fu _ _ h
  · intro s8 h
    cases h
    exact r_vreturn (dc_X6_clear 21 rfl) rfl
theorem l_X6_sitesThatKnow_L6 {G : Gx} {d : Nat} (hl : G.1.stackTraces = false) (hd : 1 ≤ d) {sL : Sto} {pL0 : Nat} {pL1 : Nat} {xL2 : Int32} {xL3 : Int32} {r : Int32} {k32 : Int32 → Option Int32}
    (hk32 : ∀ (xL4 : Int32), k32 xL4 = some r → J G d m_X6_sitesThatKnow 32 [(4, .int xL4)] [] sL (.inl (some (.int r))) sL)
  : ∀ (f : Nat) (xL4 : Int32) (xL5 : Int32), F_X6_sitesThatKnow_L6 sL pL0 pL1 xL2 xL3 f xL4 xL5 k32 = some r → J G d m_X6_sitesThatKnow 6 [(0, .ref pL0), (1, .ref pL1), (2, .int xL2), (3, .int xL3), (4, .int xL4), (5, .int xL5)] [] sL (.inl (some (.int r))) sL := by
  intro f
  induction f with
  | zero => intro xL4 xL5 h; rw [F_X6_sitesThatKnow_L6] at h; cases h
  | succ f ih =>
    intro xL4 xL5 h
    rw [F_X6_sitesThatKnow_L6] at h
    refine r_iload (dc_X6_sitesThatKnow 4 rfl) rfl ?_
    refine r_iload_n (dc_X6_sitesThatKnow 5 rfl) rfl rfl ?_
    refine r_icmp_ge (dc_X6_sitesThatKnow 6 rfl) (tgt := 32) (by decide) (fun c0 => ?_) (fun c0 => ?_)
    · rw [if_pos c0] at h
      refine r_pick [4] (lo' := [(4, .int xL4)]) rfl ?_
      exact hk32 _ h
    · rw [if_neg c0] at h
      refine r_aload_n (dc_X6_sitesThatKnow 7 rfl) rfl rfl ?_
      refine r_aload_n (dc_X6_sitesThatKnow 8 rfl) rfl rfl ?_
      refine r_iload (dc_X6_sitesThatKnow 9 rfl) rfl ?_
      refine r_iload_n (dc_X6_sitesThatKnow 10 rfl) rfl rfl ?_
      obtain ⟨x1, e0, h⟩ := Option.bind_eq_some_iff.mp h
      refine r_callV (dc_X6_sitesThatKnow 11 rfl) mv_X6_isKnown ml_RX6_63 (As := [.ref pL1, .int xL5, .int xL2]) (t_X6_isKnown (d := d - 1) hl (by omega) e0) (by omega) rfl (Nat.le_of_ble_eq_true rfl) ?_
      refine r_if_eq (dc_X6_sitesThatKnow 12 rfl) (tgt := 26) (by decide) (fun c0 => ?_) (fun c0 => ?_)
      · rw [if_pos c0] at h
        refine r_iinc (dc_X6_sitesThatKnow 14 rfl) rfl (kinc_1 _) (by decide) (lo' := [(5, .int (xL5 + (1 : Int32))), (0, .ref pL0), (1, .ref pL1), (2, .int xL2), (3, .int xL3), (4, .int xL4)]) rfl ?_
        refine r_goto (dc_X6_sitesThatKnow 15 rfl) (tgt := 6) (by decide) ?_
        refine r_pick [1, 2, 3, 4, 5, 0] (lo' := [(0, .ref pL0), (1, .ref pL1), (2, .int xL2), (3, .int xL3), (4, .int xL4), (5, .int (xL5 + (1 : Int32)))]) rfl ?_
        exact ih _ _ h
      · rw [if_neg c0] at h
        refine r_iinc (dc_X6_sitesThatKnow 13 rfl) rfl (kinc_1 _) (by decide) (lo' := [(4, .int (xL4 + (1 : Int32))), (0, .ref pL0), (1, .ref pL1), (2, .int xL2), (3, .int xL3), (5, .int xL5)]) rfl ?_
        refine r_iinc (dc_X6_sitesThatKnow 14 rfl) rfl (kinc_1 _) (by decide) (lo' := [(5, .int (xL5 + (1 : Int32))), (4, .int (xL4 + (1 : Int32))), (0, .ref pL0), (1, .ref pL1), (2, .int xL2), (3, .int xL3)]) rfl ?_
        refine r_goto (dc_X6_sitesThatKnow 15 rfl) (tgt := 6) (by decide) ?_
        refine r_pick [2, 3, 4, 5, 1, 0] (lo' := [(0, .ref pL0), (1, .ref pL1), (2, .int xL2), (3, .int xL3), (4, .int (xL4 + (1 : Int32))), (5, .int (xL5 + (1 : Int32)))]) rfl ?_
        exact ih _ _ h
theorem t_X6_sitesThatKnow {G : Gx} {d : Nat} (hl : G.1.stackTraces = false) (hd : 1 ≤ d) {σ : Sto} {a0 : Nat} {pa1 : Nat} {xa2 : Int32} {xa3 : Int32} {r : Int32} (h : F_X6_sitesThatKnow σ a0 pa1 xa2 xa3 = some r) : Mi G d m_X6_sitesThatKnow 6 a0 [.ref pa1, .int xa2, .int xa3] σ (.inl (some (.int r))) σ := by
  rw [F_X6_sitesThatKnow] at h
  obtain ⟨hg, h⟩ := chk_some h
  refine ⟨J.toMt (lo := [(0, .ref a0), (1, .ref pa1), (2, .int xa2), (3, .int xa3)]) pn_RX6 rfl hl (Nat.le_of_ble_eq_true rfl) rfl ?_, hg⟩
  refine r_iconst (dc_X6_sitesThatKnow 0 rfl) kiconst_0 ?_
  refine r_istore (dc_X6_sitesThatKnow 1 rfl) (by decide) (lo' := [(4, .int (0 : Int32)), (0, .ref a0), (1, .ref pa1), (2, .int xa2), (3, .int xa3)]) rfl ?_
  refine r_iconst (dc_X6_sitesThatKnow 2 rfl) kiconst_0 ?_
  refine r_istore (dc_X6_sitesThatKnow 3 rfl) (by decide) (lo' := [(5, .int (0 : Int32)), (4, .int (0 : Int32)), (0, .ref a0), (1, .ref pa1), (2, .int xa2), (3, .int xa3)]) rfl ?_
  refine r_pick [2, 3, 4, 5, 1, 0] (lo' := [(0, .ref a0), (1, .ref pa1), (2, .int xa2), (3, .int xa3), (4, .int (0 : Int32)), (5, .int (0 : Int32))]) rfl ?_
  refine l_X6_sitesThatKnow_L6 hl hd (hk32 := ?_) fu _ _ h
  · intro x2 h
    refine r_iload (dc_X6_sitesThatKnow 16 rfl) rfl ?_
    cases h
    exact r_ireturn (dc_X6_sitesThatKnow 17 rfl) rfl
theorem l_X6_logHolds_L2 {G : Gx} {d : Nat} (hl : G.1.stackTraces = false) (hd : 0 ≤ d) {sL : Sto} {pL0 : Nat} {xL1 : Int32} {r : Int32} {k28 : Option Int32}
    (hk28 : k28  = some r → J G d m_X6_logHolds 28 [] [] sL (.inl (some (.int r))) sL)
  : ∀ (f : Nat) (xL2 : Int32), F_X6_logHolds_L2 sL pL0 xL1 f xL2 k28 = some r → J G d m_X6_logHolds 2 [(0, .ref pL0), (1, .int xL1), (2, .int xL2)] [] sL (.inl (some (.int r))) sL := by
  intro f
  induction f with
  | zero => intro xL2 h; rw [F_X6_logHolds_L2] at h; cases h
  | succ f ih =>
    intro xL2 h
    rw [F_X6_logHolds_L2] at h
    refine r_iload_n (dc_X6_logHolds 2 rfl) rfl rfl ?_
    refine r_aload_n (dc_X6_logHolds 3 rfl) rfl rfl ?_
    obtain ⟨x1, e0, h⟩ := Option.bind_eq_some_iff.mp h
    refine r_getI (dc_X6_logHolds 4 rfl) fl_RX6_37 e0 ?_
    refine r_icmp_ge (dc_X6_logHolds 5 rfl) (tgt := 28) (by decide) (fun c0 => ?_) (fun c0 => ?_)
    · rw [if_pos c0] at h
      refine r_pick [] (lo' := []) rfl ?_
      exact hk28  h
    · rw [if_neg c0] at h
      refine r_aload_n (dc_X6_logHolds 6 rfl) rfl rfl ?_
      obtain ⟨p2, e0, h⟩ := Option.bind_eq_some_iff.mp h
      refine r_getR (dc_X6_logHolds 7 rfl) fl_RX6_21 e0 ?_
      refine r_iload_n (dc_X6_logHolds 8 rfl) rfl rfl ?_
      obtain ⟨x3, e0, h⟩ := Option.bind_eq_some_iff.mp h
      refine r_iald (dc_X6_logHolds 9 rfl) e0 ?_
      refine r_iload_n (dc_X6_logHolds 10 rfl) rfl rfl ?_
      refine r_icmp_ne (dc_X6_logHolds 11 rfl) (tgt := 22) (by decide) (fun c0 => ?_) (fun c0 => ?_)
      · rw [if_neg c0] at h
        refine r_iinc (dc_X6_logHolds 14 rfl) rfl (kinc_1 _) (by decide) (lo' := [(2, .int (xL2 + (1 : Int32))), (0, .ref pL0), (1, .int xL1)]) rfl ?_
        refine r_goto (dc_X6_logHolds 15 rfl) (tgt := 2) (by decide) ?_
        refine r_pick [1, 2, 0] (lo' := [(0, .ref pL0), (1, .int xL1), (2, .int (xL2 + (1 : Int32)))]) rfl ?_
        exact ih _ h
      · rw [if_pos c0] at h
        refine r_iconst (dc_X6_logHolds 12 rfl) kiconst_1 ?_
        cases h
        exact r_zreturn (dc_X6_logHolds 13 rfl) rfl (Or.inr rfl)
theorem t_X6_logHolds {G : Gx} {d : Nat} (hl : G.1.stackTraces = false) (hd : 0 ≤ d) {σ : Sto} {a0 : Nat} {xa1 : Int32} {r : Int32} (h : F_X6_logHolds σ a0 xa1 = some r) : Mi G d m_X6_logHolds 6 a0 [.int xa1] σ (.inl (some (.int r))) σ := by
  rw [F_X6_logHolds] at h
  obtain ⟨hg, h⟩ := chk_some h
  refine ⟨J.toMt (lo := [(0, .ref a0), (1, .int xa1)]) pn_RX6 rfl hl (Nat.le_of_ble_eq_true rfl) rfl ?_, hg⟩
  refine r_iconst (dc_X6_logHolds 0 rfl) kiconst_0 ?_
  refine r_istore_n (dc_X6_logHolds 1 rfl) rfl (by decide) (lo' := [(2, .int (0 : Int32)), (0, .ref a0), (1, .int xa1)]) rfl ?_
  refine r_pick [1, 2, 0] (lo' := [(0, .ref a0), (1, .int xa1), (2, .int (0 : Int32))]) rfl ?_
  refine l_X6_logHolds_L2 hl hd (hk28 := ?_) fu _ h
  · intro h
    refine r_iconst (dc_X6_logHolds 16 rfl) kiconst_0 ?_
    cases h
    exact r_zreturn (dc_X6_logHolds 17 rfl) rfl (Or.inl rfl)
theorem t_X6_ownEvent {G : Gx} {d : Nat} (hl : G.1.stackTraces = false) (hd : 2 ≤ d) {σ : Sto} {a0 : Nat} {pa1 : Nat} {xa2 : Int32} {r : Sto} (h : F_X6_ownEvent σ a0 pa1 xa2 = some r) : Mi G d m_X6_ownEvent 6 a0 [.ref pa1, .int xa2] σ (.inl none) r := by
  rw [F_X6_ownEvent] at h
  obtain ⟨hg, h⟩ := chk_some h
  refine ⟨J.toMt (lo := [(0, .ref a0), (1, .ref pa1), (2, .int xa2)]) pn_RX6 rfl hl (Nat.le_of_ble_eq_true rfl) rfl ?_, hg⟩
  refine r_aload_n (dc_X6_ownEvent 0 rfl) rfl rfl ?_
  obtain ⟨p1, e0, h⟩ := Option.bind_eq_some_iff.mp h
  refine r_getR (dc_X6_ownEvent 1 rfl) fl_RX6_55 e0 ?_
  refine r_iload_n (dc_X6_ownEvent 2 rfl) rfl rfl ?_
  obtain ⟨x2, e0, h⟩ := Option.bind_eq_some_iff.mp h
  refine r_iald (dc_X6_ownEvent 3 rfl) e0 ?_
  refine r_istore_n (dc_X6_ownEvent 4 rfl) rfl (by decide) (lo' := [(3, .int x2), (0, .ref a0), (1, .ref pa1), (2, .int xa2)]) rfl ?_
  refine r_aload_n (dc_X6_ownEvent 5 rfl) rfl rfl ?_
  obtain ⟨p3, e0, h⟩ := Option.bind_eq_some_iff.mp h
  refine r_getR (dc_X6_ownEvent 6 rfl) fl_RX6_25 e0 ?_
  refine r_iload_n (dc_X6_ownEvent 7 rfl) rfl rfl ?_
  refine r_iload_n (dc_X6_ownEvent 8 rfl) rfl rfl ?_
  obtain ⟨x4, e0, h⟩ := Option.bind_eq_some_iff.mp h
  refine r_callSN (dc_X6_ownEvent 9 rfl) ms_X9_cell mn_RX6_67 (As := [.int x2, .int x2]) (t_X9_cell (d := d - 1) hl (by omega) e0) (by omega) rfl (Nat.le_of_ble_eq_true rfl) ?_
  refine r_aload_n (dc_X6_ownEvent 10 rfl) rfl rfl ?_
  obtain ⟨p5, e0, h⟩ := Option.bind_eq_some_iff.mp h
  refine r_getR (dc_X6_ownEvent 11 rfl) fl_RX6_60 e0 ?_
  refine r_iload_n (dc_X6_ownEvent 12 rfl) rfl rfl ?_
  obtain ⟨x6, e0, h⟩ := Option.bind_eq_some_iff.mp h
  refine r_iald (dc_X6_ownEvent 13 rfl) e0 ?_
  obtain ⟨s7, e0, h⟩ := Option.bind_eq_some_iff.mp h
  refine r_iast (dc_X6_ownEvent 14 rfl) e0 ?_
  refine r_aload_n (dc_X6_ownEvent 15 rfl) rfl rfl ?_
  refine r_iload_n (dc_X6_ownEvent 16 rfl) rfl rfl ?_
  refine r_aload_n (dc_X6_ownEvent 17 rfl) rfl rfl ?_
  obtain ⟨p8, e0, h⟩ := Option.bind_eq_some_iff.mp h
  refine r_getR (dc_X6_ownEvent 18 rfl) fl_RX6_71 e0 ?_
  refine r_iload_n (dc_X6_ownEvent 19 rfl) rfl rfl ?_
  obtain ⟨x9, e0, h⟩ := Option.bind_eq_some_iff.mp h
  refine r_iald (dc_X6_ownEvent 20 rfl) e0 ?_
  refine r_iload_n (dc_X6_ownEvent 21 rfl) rfl rfl ?_
  obtain ⟨s10, e0, h⟩ := Option.bind_eq_some_iff.mp h
  refine r_callV (dc_X6_ownEvent 22 rfl) mv_X6_gain ml_RX6_74 (As := [.int xa2, .int x9, .int x2]) (t_X6_gain (d := d - 1) hl (by omega) e0) (by omega) rfl (Nat.le_of_ble_eq_true rfl) ?_
  refine r_aload_n (dc_X6_ownEvent 23 rfl) rfl rfl ?_
  refine r_iload_n (dc_X6_ownEvent 24 rfl) rfl rfl ?_
  obtain ⟨s11, e0, h⟩ := Option.bind_eq_some_iff.mp h
  refine r_callV (dc_X6_ownEvent 25 rfl) mv_X6_appendToLog ml_RX6_78 (As := [.int xa2]) (t_X6_appendToLog (d := d - 1) hl (by omega) e0) (by omega) rfl (Nat.le_of_ble_eq_true rfl) ?_
  cases h
  exact r_vreturn (dc_X6_ownEvent 26 rfl) rfl
theorem t_X7_init {G : Gx} {d : Nat} (hl : G.1.stackTraces = false) (hd : 1 ≤ d) {σ : Sto} {a0 : Nat} {r : Sto} (h : F_X7_init σ a0 = some r) : Mt G d m_X7_init [Value.ref a0] σ (.inl none) r := by
  rw [F_X7_init] at h
  refine J.toMt (lo := [(0, .ref a0)]) pn_RX7 rfl hl (Nat.le_of_ble_eq_true rfl) rfl ?_
  refine r_aload_n (dc_X7_init 0 rfl) rfl rfl ?_
  refine r_objInit (dc_X7_init 1 rfl) ml_RX7_3 w_obj1 w_obj2 (by omega) (Nat.le_of_ble_eq_true rfl) ?_
  refine r_aload_n (dc_X7_init 2 rfl) rfl rfl ?_
  refine r_bipush (dc_X7_init 3 rfl) kbipush_32 ?_
  obtain ⟨p2, s1, ev, es, h⟩ := nw_some h
  refine r_newI (dc_X7_init 4 rfl) ac_int (by decide) (by decide +kernel) ?_
  rw [← ev, ← es]
  obtain ⟨s3, e0, h⟩ := Option.bind_eq_some_iff.mp h
  refine r_putX (dc_X7_init 5 rfl) pl_RX7_9 (Or.inr ⟨rfl, fun q hq => by cases hq; rfl⟩) rfl e0 ?_
  refine r_aload_n (dc_X7_init 6 rfl) rfl rfl ?_
  refine r_bipush (dc_X7_init 7 rfl) kbipush_32 ?_
  obtain ⟨p5, s4, ev, es, h⟩ := nw_some h
  refine r_newI (dc_X7_init 8 rfl) ac_int (by decide) (by decide +kernel) ?_
  rw [← ev, ← es]
  obtain ⟨s6, e0, h⟩ := Option.bind_eq_some_iff.mp h
  refine r_putX (dc_X7_init 9 rfl) pl_RX7_15 (Or.inr ⟨rfl, fun q hq => by cases hq; rfl⟩) rfl e0 ?_
  refine r_aload_n (dc_X7_init 10 rfl) rfl rfl ?_
  refine r_bipush (dc_X7_init 11 rfl) kbipush_32 ?_
  obtain ⟨p8, s7, ev, es, h⟩ := nw_some h
  refine r_newI (dc_X7_init 12 rfl) ac_int (by decide) (by decide +kernel) ?_
  rw [← ev, ← es]
  obtain ⟨s9, e0, h⟩ := Option.bind_eq_some_iff.mp h
  refine r_putX (dc_X7_init 13 rfl) pl_RX7_18 (Or.inr ⟨rfl, fun q hq => by cases hq; rfl⟩) rfl e0 ?_
  refine r_aload_n (dc_X7_init 14 rfl) rfl rfl ?_
  refine r_bipush (dc_X7_init 15 rfl) kbipush_32 ?_
  obtain ⟨p11, s10, ev, es, h⟩ := nw_some h
  refine r_newI (dc_X7_init 16 rfl) ac_int (by decide) (by decide +kernel) ?_
  rw [← ev, ← es]
  obtain ⟨s12, e0, h⟩ := Option.bind_eq_some_iff.mp h
  refine r_putX (dc_X7_init 17 rfl) pl_RX7_21 (Or.inr ⟨rfl, fun q hq => by cases hq; rfl⟩) rfl e0 ?_
  cases h
  exact r_vreturn (dc_X7_init 18 rfl) rfl
theorem t_X7_forget {G : Gx} {d : Nat} (hl : G.1.stackTraces = false) (hd : 0 ≤ d) {σ : Sto} {a0 : Nat} {r : Sto} (h : F_X7_forget σ a0 = some r) : Mi G d m_X7_forget 7 a0 [] σ (.inl none) r := by
  rw [F_X7_forget] at h
  obtain ⟨hg, h⟩ := chk_some h
  refine ⟨J.toMt (lo := [(0, .ref a0)]) pn_RX7 rfl hl (Nat.le_of_ble_eq_true rfl) rfl ?_, hg⟩
  refine r_aload_n (dc_X7_forget 0 rfl) rfl rfl ?_
  refine r_iconst (dc_X7_forget 1 rfl) kiconst_0 ?_
  obtain ⟨s1, e0, h⟩ := Option.bind_eq_some_iff.mp h
  refine r_put (dc_X7_forget 2 rfl) pl_RX7_24 rfl e0 ?_
  refine r_aload_n (dc_X7_forget 3 rfl) rfl rfl ?_
  refine r_iconst (dc_X7_forget 4 rfl) kiconst_0 ?_
  obtain ⟨s2, e0, h⟩ := Option.bind_eq_some_iff.mp h
  refine r_put (dc_X7_forget 5 rfl) pl_RX7_28 rfl e0 ?_
  cases h
  exact r_vreturn (dc_X7_forget 6 rfl) rfl
theorem t_X7_record {G : Gx} {d : Nat} (hl : G.1.stackTraces = false) (hd : 0 ≤ d) {σ : Sto} {a0 : Nat} {xa1 : Int32} {xa2 : Int32} {xa3 : Int32} {xa4 : Int32} {r : Sto} (h : F_X7_record σ a0 xa1 xa2 xa3 xa4 = some r) : Mi G d m_X7_record 7 a0 [.int xa1, .int xa2, .int xa3, .int xa4] σ (.inl none) r := by
  rw [F_X7_record] at h
  obtain ⟨hg, h⟩ := chk_some h
  refine ⟨J.toMt (lo := [(0, .ref a0), (1, .int xa1), (2, .int xa2), (3, .int xa3), (4, .int xa4)]) pn_RX7 rfl hl (Nat.le_of_ble_eq_true rfl) rfl ?_, hg⟩
  refine r_aload_n (dc_X7_record 0 rfl) rfl rfl ?_
  obtain ⟨p1, e0, h⟩ := Option.bind_eq_some_iff.mp h
  refine r_getR (dc_X7_record 1 rfl) fl_RX7_9 e0 ?_
  refine r_aload_n (dc_X7_record 2 rfl) rfl rfl ?_
  obtain ⟨x2, e0, h⟩ := Option.bind_eq_some_iff.mp h
  refine r_getI (dc_X7_record 3 rfl) fl_RX7_28 e0 ?_
  refine r_iload_n (dc_X7_record 4 rfl) rfl rfl ?_
  obtain ⟨s3, e0, h⟩ := Option.bind_eq_some_iff.mp h
  refine r_iast (dc_X7_record 5 rfl) e0 ?_
  refine r_aload_n (dc_X7_record 6 rfl) rfl rfl ?_
  obtain ⟨p4, e0, h⟩ := Option.bind_eq_some_iff.mp h
  refine r_getR (dc_X7_record 7 rfl) fl_RX7_15 e0 ?_
  refine r_aload_n (dc_X7_record 8 rfl) rfl rfl ?_
  obtain ⟨x5, e0, h⟩ := Option.bind_eq_some_iff.mp h
  refine r_getI (dc_X7_record 9 rfl) fl_RX7_28 e0 ?_
  refine r_iload_n (dc_X7_record 10 rfl) rfl rfl ?_
  obtain ⟨s6, e0, h⟩ := Option.bind_eq_some_iff.mp h
  refine r_iast (dc_X7_record 11 rfl) e0 ?_
  refine r_aload_n (dc_X7_record 12 rfl) rfl rfl ?_
  obtain ⟨p7, e0, h⟩ := Option.bind_eq_some_iff.mp h
  refine r_getR (dc_X7_record 13 rfl) fl_RX7_18 e0 ?_
  refine r_aload_n (dc_X7_record 14 rfl) rfl rfl ?_
  obtain ⟨x8, e0, h⟩ := Option.bind_eq_some_iff.mp h
  refine r_getI (dc_X7_record 15 rfl) fl_RX7_28 e0 ?_
  refine r_iload_n (dc_X7_record 16 rfl) rfl rfl ?_
  obtain ⟨s9, e0, h⟩ := Option.bind_eq_some_iff.mp h
  refine r_iast (dc_X7_record 17 rfl) e0 ?_
  refine r_aload_n (dc_X7_record 18 rfl) rfl rfl ?_
  obtain ⟨p10, e0, h⟩ := Option.bind_eq_some_iff.mp h
  refine r_getR (dc_X7_record 19 rfl) fl_RX7_21 e0 ?_
  refine r_aload_n (dc_X7_record 20 rfl) rfl rfl ?_
  obtain ⟨x11, e0, h⟩ := Option.bind_eq_some_iff.mp h
  refine r_getI (dc_X7_record 21 rfl) fl_RX7_28 e0 ?_
  refine r_iload (dc_X7_record 22 rfl) rfl ?_
  obtain ⟨s12, e0, h⟩ := Option.bind_eq_some_iff.mp h
  refine r_iast (dc_X7_record 23 rfl) e0 ?_
  refine r_aload_n (dc_X7_record 24 rfl) rfl rfl ?_
  refine r_aload_n (dc_X7_record 25 rfl) rfl rfl ?_
  obtain ⟨x13, e0, h⟩ := Option.bind_eq_some_iff.mp h
  refine r_getI (dc_X7_record 26 rfl) fl_RX7_28 e0 ?_
  refine r_iconst (dc_X7_record 27 rfl) kiconst_1 ?_
  refine r_iadd (dc_X7_record 28 rfl) ?_
  refine r_bipush (dc_X7_record 29 rfl) kbipush_32 ?_
  refine jn_elim h (Q := fun (j : Int32 → Option Sto) => ∀ (x15 : Int32), j x15 = some r → J G d m_X7_record 63 [(0, .ref a0)] [.int x15, .ref a0] s12 (.inl none) r) ?_ (fun j14 hj14 h => ?_)
  · intro x15 h
    obtain ⟨s16, e0, h⟩ := Option.bind_eq_some_iff.mp h
    refine r_put (dc_X7_record 37 rfl) pl_RX7_28 rfl e0 ?_
    refine r_aload_n (dc_X7_record 38 rfl) rfl rfl ?_
    refine r_aload_n (dc_X7_record 39 rfl) rfl rfl ?_
    obtain ⟨x17, e0, h⟩ := Option.bind_eq_some_iff.mp h
    refine r_getI (dc_X7_record 40 rfl) fl_RX7_24 e0 ?_
    refine r_bipush (dc_X7_record 41 rfl) kbipush_32 ?_
    refine r_icmp_ge (dc_X7_record 42 rfl) (tgt := 85) (by decide) (fun c0 => ?_) (fun c0 => ?_)
    · rw [if_pos c0] at h
      refine r_bipush (dc_X7_record 48 rfl) kbipush_32 ?_
      obtain ⟨s18, e0, h⟩ := Option.bind_eq_some_iff.mp h
      refine r_put (dc_X7_record 49 rfl) pl_RX7_24 rfl e0 ?_
      cases h
      exact r_vreturn (dc_X7_record 50 rfl) rfl
    · rw [if_neg c0] at h
      refine r_aload_n (dc_X7_record 43 rfl) rfl rfl ?_
      obtain ⟨x19, e0, h⟩ := Option.bind_eq_some_iff.mp h
      refine r_getI (dc_X7_record 44 rfl) fl_RX7_24 e0 ?_
      refine r_iconst (dc_X7_record 45 rfl) kiconst_1 ?_
      refine r_iadd (dc_X7_record 46 rfl) ?_
      refine r_goto (dc_X7_record 47 rfl) (tgt := 87) (by decide) ?_
      obtain ⟨s20, e0, h⟩ := Option.bind_eq_some_iff.mp h
      refine r_put (dc_X7_record 49 rfl) pl_RX7_24 rfl e0 ?_
      cases h
      exact r_vreturn (dc_X7_record 50 rfl) rfl
  refine r_icmp_ge (dc_X7_record 30 rfl) (tgt := 62) (by decide) (fun c0 => ?_) (fun c0 => ?_)
  · rw [if_pos c0] at h
    refine r_iconst (dc_X7_record 36 rfl) kiconst_0 ?_
    refine r_pick [0] (lo' := [(0, .ref a0)]) rfl ?_
    exact hj14 _ h
  · rw [if_neg c0] at h
    refine r_aload_n (dc_X7_record 31 rfl) rfl rfl ?_
    obtain ⟨x21, e0, h⟩ := Option.bind_eq_some_iff.mp h
    refine r_getI (dc_X7_record 32 rfl) fl_RX7_28 e0 ?_
    refine r_iconst (dc_X7_record 33 rfl) kiconst_1 ?_
    refine r_iadd (dc_X7_record 34 rfl) ?_
    refine r_goto (dc_X7_record 35 rfl) (tgt := 63) (by decide) ?_
    refine r_pick [0] (lo' := [(0, .ref a0)]) rfl ?_
    exact hj14 _ h
theorem t_X7_told {G : Gx} {d : Nat} (hl : G.1.stackTraces = false) (hd : 0 ≤ d) {σ : Sto} {a0 : Nat} {xa1 : Int32} {xa2 : Int32} {r : Int32} (h : F_X7_told σ a0 xa1 xa2 = some r) : Mi G d m_X7_told 7 a0 [.int xa1, .int xa2] σ (.inl (some (.int r))) σ := by
  rw [F_X7_told] at h
  obtain ⟨hg, h⟩ := chk_some h
  refine ⟨J.toMt (lo := [(0, .ref a0), (1, .int xa1), (2, .int xa2)]) pn_RX7 rfl hl (Nat.le_of_ble_eq_true rfl) rfl ?_, hg⟩
  refine r_aload_n (dc_X7_told 0 rfl) rfl rfl ?_
  obtain ⟨x1, e0, h⟩ := Option.bind_eq_some_iff.mp h
  refine r_getI (dc_X7_told 1 rfl) fl_RX7_28 e0 ?_
  refine r_iconst (dc_X7_told 2 rfl) kiconst_1 ?_
  refine r_isub (dc_X7_told 3 rfl) ?_
  refine r_iload_n (dc_X7_told 4 rfl) rfl rfl ?_
  refine r_isub (dc_X7_told 5 rfl) ?_
  refine r_istore_n (dc_X7_told 6 rfl) rfl (by decide) (lo' := [(3, .int ((x1 - (1 : Int32)) - xa1)), (0, .ref a0), (1, .int xa1), (2, .int xa2)]) rfl ?_
  refine r_iload_n (dc_X7_told 7 rfl) rfl rfl ?_
  refine jn_elim h (Q := fun (j : Int32 → Option Int32) => ∀ (x3 : Int32), j x3 = some r → J G d m_X7_told 16 [(0, .ref a0), (2, .int xa2), (3, .int x3)] [] σ (.inl (some (.int r))) σ) ?_ (fun j2 hj2 h => ?_)
  · intro x3 h
    refine r_iload_n (dc_X7_told 10 rfl) rfl rfl ?_
    by_cases c0 : xa2 = (0 : Int32)
    · rw [if_pos c0] at h
      refine r_tsInE c0 (dc_X7_told 11 rfl) (tgt := 44) (off := 27) (by decide) (by decide) (by decide) (by decide) ?_
      refine r_aload_n (dc_X7_told 12 rfl) rfl rfl ?_
      obtain ⟨p4, e0, h⟩ := Option.bind_eq_some_iff.mp h
      refine r_getR (dc_X7_told 13 rfl) fl_RX7_9 e0 ?_
      refine r_iload_n (dc_X7_told 14 rfl) rfl rfl ?_
      obtain ⟨x5, e0, h⟩ := Option.bind_eq_some_iff.mp h
      refine r_iald (dc_X7_told 15 rfl) e0 ?_
      cases h
      exact r_ireturn (dc_X7_told 16 rfl) rfl
    rw [if_neg c0] at h
    by_cases c1 : xa2 = (1 : Int32)
    · rw [if_pos c1] at h
      refine r_tsInE c1 (dc_X7_told 11 rfl) (tgt := 51) (off := 34) (by decide) (by decide) (by decide) (by decide) ?_
      refine r_aload_n (dc_X7_told 17 rfl) rfl rfl ?_
      obtain ⟨p6, e0, h⟩ := Option.bind_eq_some_iff.mp h
      refine r_getR (dc_X7_told 18 rfl) fl_RX7_15 e0 ?_
      refine r_iload_n (dc_X7_told 19 rfl) rfl rfl ?_
      obtain ⟨x7, e0, h⟩ := Option.bind_eq_some_iff.mp h
      refine r_iald (dc_X7_told 20 rfl) e0 ?_
      cases h
      exact r_ireturn (dc_X7_told 21 rfl) rfl
    rw [if_neg c1] at h
    by_cases c2 : xa2 = (2 : Int32)
    · rw [if_pos c2] at h
      refine r_tsInE c2 (dc_X7_told 11 rfl) (tgt := 58) (off := 41) (by decide) (by decide) (by decide) (by decide) ?_
      refine r_aload_n (dc_X7_told 22 rfl) rfl rfl ?_
      obtain ⟨p8, e0, h⟩ := Option.bind_eq_some_iff.mp h
      refine r_getR (dc_X7_told 23 rfl) fl_RX7_18 e0 ?_
      refine r_iload_n (dc_X7_told 24 rfl) rfl rfl ?_
      obtain ⟨x9, e0, h⟩ := Option.bind_eq_some_iff.mp h
      refine r_iald (dc_X7_told 25 rfl) e0 ?_
      cases h
      exact r_ireturn (dc_X7_told 26 rfl) rfl
    rw [if_neg c2] at h
    refine r_tsOut (dc_X7_told 11 rfl) (tgt := 65) (ts_out (n := 3) (fun k hk => match k, hk with | 0, _ => c0 | 1, _ => c1 | 2, _ => c2 | k + 3, hk => absurd hk (by omega)) (by decide)) (by decide) ?_
    refine r_aload_n (dc_X7_told 27 rfl) rfl rfl ?_
    obtain ⟨p10, e0, h⟩ := Option.bind_eq_some_iff.mp h
    refine r_getR (dc_X7_told 28 rfl) fl_RX7_21 e0 ?_
    refine r_iload_n (dc_X7_told 29 rfl) rfl rfl ?_
    obtain ⟨x11, e0, h⟩ := Option.bind_eq_some_iff.mp h
    refine r_iald (dc_X7_told 30 rfl) e0 ?_
    cases h
    exact r_ireturn (dc_X7_told 31 rfl) rfl
  refine r_if_ge (dc_X7_told 8 rfl) (tgt := 16) (by decide) (fun c0 => ?_) (fun c0 => ?_)
  · rw [if_pos c0] at h
    refine r_pick [1, 3, 0] (lo' := [(0, .ref a0), (2, .int xa2), (3, .int ((x1 - (1 : Int32)) - xa1))]) rfl ?_
    exact hj2 _ h
  · rw [if_neg c0] at h
    refine r_iinc (dc_X7_told 9 rfl) rfl (kinc_32 _) (by decide) (lo' := [(3, .int (((x1 - (1 : Int32)) - xa1) + (32 : Int32))), (0, .ref a0), (1, .int xa1), (2, .int xa2)]) rfl ?_
    refine r_pick [1, 3, 0] (lo' := [(0, .ref a0), (2, .int xa2), (3, .int (((x1 - (1 : Int32)) - xa1) + (32 : Int32)))]) rfl ?_
    exact hj2 _ h
theorem l_X8_init_L55 {G : Gx} {d : Nat} (hl : G.1.stackTraces = false) (hd : 3 ≤ d) {pL0 : Nat} {r : Sto} {k92 : Sto → Option Sto}
    (hk92 : ∀ (sL : Sto), k92 sL = some r → J G d m_X8_init 92 [(0, .ref pL0)] [] sL (.inl none) r)
  : ∀ (f : Nat) (xL1 : Int32) (sL : Sto), F_X8_init_L55 pL0 f xL1 sL k92 = some r → J G d m_X8_init 55 [(0, .ref pL0), (1, .int xL1)] [] sL (.inl none) r := by
  intro f
  induction f with
  | zero => intro xL1 sL h; rw [F_X8_init_L55] at h; cases h
  | succ f ih =>
    intro xL1 sL h
    rw [F_X8_init_L55] at h
    refine r_iload_n (dc_X8_init 28 rfl) rfl rfl ?_
    refine r_iconst (dc_X8_init 29 rfl) kiconst_5 ?_
    refine r_icmp_ge (dc_X8_init 30 rfl) (tgt := 92) (by decide) (fun c0 => ?_) (fun c0 => ?_)
    · rw [if_pos c0] at h
      refine r_pick [0] (lo' := [(0, .ref pL0)]) rfl ?_
      exact hk92 _ h
    · rw [if_neg c0] at h
      refine r_aload_n (dc_X8_init 31 rfl) rfl rfl ?_
      obtain ⟨p18, e0, h⟩ := Option.bind_eq_some_iff.mp h
      refine r_getR (dc_X8_init 32 rfl) fl_RX8_24 e0 ?_
      refine r_iload_n (dc_X8_init 33 rfl) rfl rfl ?_
      obtain ⟨p20, s19, ev, es, h⟩ := nw_some h
      refine r_new (dc_X8_init 34 rfl) nl_RX8_22 ?_
      rw [← ev, ← es]
      refine r_dup (dc_X8_init 35 rfl) rfl ?_
      obtain ⟨s21, e0, h⟩ := Option.bind_eq_some_iff.mp h
      refine r_callIN (dc_X8_init 36 rfl) mi_X6_init mn_RX8_41 (As := []) (t_X6_init (d := d - 1) hl (by omega) e0) (by omega) rfl (Nat.le_of_ble_eq_true rfl) ?_
      obtain ⟨s22, e0, h⟩ := Option.bind_eq_some_iff.mp h
      refine r_aast (dc_X8_init 37 rfl) (kd := 4) rfl rfl e0 ?_
      refine r_aload_n (dc_X8_init 38 rfl) rfl rfl ?_
      obtain ⟨p23, e0, h⟩ := Option.bind_eq_some_iff.mp h
      refine r_getR (dc_X8_init 39 rfl) fl_RX8_28 e0 ?_
      refine r_iload_n (dc_X8_init 40 rfl) rfl rfl ?_
      obtain ⟨p25, s24, ev, es, h⟩ := nw_some h
      refine r_new (dc_X8_init 41 rfl) nl_RX8_22 ?_
      rw [← ev, ← es]
      refine r_dup (dc_X8_init 42 rfl) rfl ?_
      obtain ⟨s26, e0, h⟩ := Option.bind_eq_some_iff.mp h
      refine r_callIN (dc_X8_init 43 rfl) mi_X6_init mn_RX8_41 (As := []) (t_X6_init (d := d - 1) hl (by omega) e0) (by omega) rfl (Nat.le_of_ble_eq_true rfl) ?_
      obtain ⟨s27, e0, h⟩ := Option.bind_eq_some_iff.mp h
      refine r_aast (dc_X8_init 44 rfl) (kd := 4) rfl rfl e0 ?_
      refine r_iinc (dc_X8_init 45 rfl) rfl (kinc_1 _) (by decide) (lo' := [(1, .int (xL1 + (1 : Int32))), (0, .ref pL0)]) rfl ?_
      refine r_goto (dc_X8_init 46 rfl) (tgt := 55) (by decide) ?_
      refine r_pick [1, 0] (lo' := [(0, .ref pL0), (1, .int (xL1 + (1 : Int32)))]) rfl ?_
      exact ih _ _ h
theorem l_X8_init_L94 {G : Gx} {d : Nat} (hl : G.1.stackTraces = false) (hd : 3 ≤ d) {pL0 : Nat} {r : Sto} {k119 : Sto → Option Sto}
    (hk119 : ∀ (sL : Sto), k119 sL = some r → J G d m_X8_init 119 [] [] sL (.inl none) r)
  : ∀ (f : Nat) (xL1 : Int32) (sL : Sto), F_X8_init_L94 pL0 f xL1 sL k119 = some r → J G d m_X8_init 94 [(0, .ref pL0), (1, .int xL1)] [] sL (.inl none) r := by
  intro f
  induction f with
  | zero => intro xL1 sL h; rw [F_X8_init_L94] at h; cases h
  | succ f ih =>
    intro xL1 sL h
    rw [F_X8_init_L94] at h
    refine r_iload_n (dc_X8_init 49 rfl) rfl rfl ?_
    refine r_bipush (dc_X8_init 50 rfl) kbipush_25 ?_
    refine r_icmp_ge (dc_X8_init 51 rfl) (tgt := 119) (by decide) (fun c0 => ?_) (fun c0 => ?_)
    · rw [if_pos c0] at h
      refine r_pick [] (lo' := []) rfl ?_
      exact hk119 _ h
    · rw [if_neg c0] at h
      refine r_aload_n (dc_X8_init 52 rfl) rfl rfl ?_
      obtain ⟨p29, e0, h⟩ := Option.bind_eq_some_iff.mp h
      refine r_getR (dc_X8_init 53 rfl) fl_RX8_33 e0 ?_
      refine r_iload_n (dc_X8_init 54 rfl) rfl rfl ?_
      obtain ⟨p31, s30, ev, es, h⟩ := nw_some h
      refine r_new (dc_X8_init 55 rfl) nl_RX8_31 ?_
      rw [← ev, ← es]
      refine r_dup (dc_X8_init 56 rfl) rfl ?_
      obtain ⟨s32, e0, h⟩ := Option.bind_eq_some_iff.mp h
      refine r_callIN (dc_X8_init 57 rfl) mi_X4_init mn_RX8_42 (As := []) (t_X4_init (d := d - 1) hl (by omega) e0) (by omega) rfl (Nat.le_of_ble_eq_true rfl) ?_
      obtain ⟨s33, e0, h⟩ := Option.bind_eq_some_iff.mp h
      refine r_aast (dc_X8_init 58 rfl) (kd := 5) rfl rfl e0 ?_
      refine r_iinc (dc_X8_init 59 rfl) rfl (kinc_1 _) (by decide) (lo' := [(1, .int (xL1 + (1 : Int32))), (0, .ref pL0)]) rfl ?_
      refine r_goto (dc_X8_init 60 rfl) (tgt := 94) (by decide) ?_
      refine r_pick [1, 0] (lo' := [(0, .ref pL0), (1, .int (xL1 + (1 : Int32)))]) rfl ?_
      exact ih _ _ h
theorem t_X8_init {G : Gx} {d : Nat} (hl : G.1.stackTraces = false) (hd : 3 ≤ d) {σ : Sto} {a0 : Nat} {r : Sto} (h : F_X8_init σ a0 = some r) : Mt G d m_X8_init [Value.ref a0] σ (.inl none) r := by
  rw [F_X8_init] at h
  refine J.toMt (lo := [(0, .ref a0)]) pn_RX8 rfl hl (Nat.le_of_ble_eq_true rfl) rfl ?_
  refine r_aload_n (dc_X8_init 0 rfl) rfl rfl ?_
  refine r_objInit (dc_X8_init 1 rfl) ml_RX8_3 w_obj1 w_obj2 (by omega) (Nat.le_of_ble_eq_true rfl) ?_
  refine r_aload_n (dc_X8_init 2 rfl) rfl rfl ?_
  refine r_iconst (dc_X8_init 3 rfl) kiconst_3 ?_
  obtain ⟨s1, e0, h⟩ := Option.bind_eq_some_iff.mp h
  refine r_put (dc_X8_init 4 rfl) pl_RX8_9 rfl e0 ?_
  refine r_aload_n (dc_X8_init 5 rfl) rfl rfl ?_
  obtain ⟨p3, s2, ev, es, h⟩ := nw_some h
  refine r_new (dc_X8_init 6 rfl) nl_RX8_15 ?_
  rw [← ev, ← es]
  refine r_dup (dc_X8_init 7 rfl) rfl ?_
  obtain ⟨s4, e0, h⟩ := Option.bind_eq_some_iff.mp h
  refine r_callI (dc_X8_init 8 rfl) mi_X2_init ml_RX8_17 (As := []) (t_X2_init (d := d - 1) hl (by omega) e0) (by omega) rfl (Nat.le_of_ble_eq_true rfl) ?_
  obtain ⟨s5, e0, h⟩ := Option.bind_eq_some_iff.mp h
  refine r_putX (dc_X8_init 9 rfl) pl_RX8_18 (Or.inr ⟨rfl, fun q hq => by cases hq; rfl⟩) rfl e0 ?_
  refine r_aload_n (dc_X8_init 10 rfl) rfl rfl ?_
  refine r_iconst (dc_X8_init 11 rfl) kiconst_5 ?_
  obtain ⟨p7, s6, ev, es, h⟩ := nw_some h
  refine r_newR (dc_X8_init 12 rfl) (kd := 4) rfl cl_RX8_22 (by decide) (by decide) (by decide +kernel) ?_
  rw [← ev, ← es]
  obtain ⟨s8, e0, h⟩ := Option.bind_eq_some_iff.mp h
  refine r_putX (dc_X8_init 13 rfl) pl_RX8_24 (Or.inr ⟨rfl, fun q hq => by cases hq; rfl⟩) rfl e0 ?_
  refine r_aload_n (dc_X8_init 14 rfl) rfl rfl ?_
  refine r_iconst (dc_X8_init 15 rfl) kiconst_5 ?_
  obtain ⟨p10, s9, ev, es, h⟩ := nw_some h
  refine r_newR (dc_X8_init 16 rfl) (kd := 4) rfl cl_RX8_22 (by decide) (by decide) (by decide +kernel) ?_
  rw [← ev, ← es]
  obtain ⟨s11, e0, h⟩ := Option.bind_eq_some_iff.mp h
  refine r_putX (dc_X8_init 17 rfl) pl_RX8_28 (Or.inr ⟨rfl, fun q hq => by cases hq; rfl⟩) rfl e0 ?_
  refine r_aload_n (dc_X8_init 18 rfl) rfl rfl ?_
  refine r_bipush (dc_X8_init 19 rfl) kbipush_25 ?_
  obtain ⟨p13, s12, ev, es, h⟩ := nw_some h
  refine r_newR (dc_X8_init 20 rfl) (kd := 5) rfl cl_RX8_31 (by decide) (by decide) (by decide +kernel) ?_
  rw [← ev, ← es]
  obtain ⟨s14, e0, h⟩ := Option.bind_eq_some_iff.mp h
  refine r_putX (dc_X8_init 21 rfl) pl_RX8_33 (Or.inr ⟨rfl, fun q hq => by cases hq; rfl⟩) rfl e0 ?_
  refine r_aload_n (dc_X8_init 22 rfl) rfl rfl ?_
  refine r_bipush (dc_X8_init 23 rfl) kbipush_25 ?_
  obtain ⟨p16, s15, ev, es, h⟩ := nw_some h
  refine r_newZ (dc_X8_init 24 rfl) ac_boolean (by decide) (by decide +kernel) ?_
  rw [← ev, ← es]
  obtain ⟨s17, e0, h⟩ := Option.bind_eq_some_iff.mp h
  refine r_putX (dc_X8_init 25 rfl) pl_RX8_37 (Or.inr ⟨rfl, fun q hq => by cases hq; rfl⟩) rfl e0 ?_
  refine r_iconst (dc_X8_init 26 rfl) kiconst_0 ?_
  refine r_istore_n (dc_X8_init 27 rfl) rfl (by decide) (lo' := [(1, .int (0 : Int32)), (0, .ref a0)]) rfl ?_
  refine r_pick [1, 0] (lo' := [(0, .ref a0), (1, .int (0 : Int32))]) rfl ?_
  refine l_X8_init_L55 hl hd (hk92 := ?_) fu _ _ h
  · intro s28 h
    refine r_iconst (dc_X8_init 47 rfl) kiconst_0 ?_
    refine r_istore_n (dc_X8_init 48 rfl) rfl (by decide) (lo' := [(1, .int (0 : Int32)), (0, .ref a0)]) rfl ?_
    refine r_pick [1, 0] (lo' := [(0, .ref a0), (1, .int (0 : Int32))]) rfl ?_
    refine l_X8_init_L94 hl hd (hk119 := ?_) fu _ _ h
    · intro s34 h
      cases h
      exact r_vreturn (dc_X8_init 61 rfl) rfl
theorem l_X8_begin_L34 {G : Gx} {d : Nat} (hl : G.1.stackTraces = false) (hd : 2 ≤ d) {pL0 : Nat} {r : Sto} {k63 : Sto → Option Sto}
    (hk63 : ∀ (sL : Sto), k63 sL = some r → J G d m_X8_begin 63 [(0, .ref pL0)] [] sL (.inl none) r)
  : ∀ (f : Nat) (xL2 : Int32) (sL : Sto), F_X8_begin_L34 pL0 f xL2 sL k63 = some r → J G d m_X8_begin 34 [(0, .ref pL0), (2, .int xL2)] [] sL (.inl none) r := by
  intro f
  induction f with
  | zero => intro xL2 sL h; rw [F_X8_begin_L34] at h; cases h
  | succ f ih =>
    intro xL2 sL h
    rw [F_X8_begin_L34] at h
    refine r_iload_n (dc_X8_begin 20 rfl) rfl rfl ?_
    refine r_iconst (dc_X8_begin 21 rfl) kiconst_5 ?_
    refine r_icmp_ge (dc_X8_begin 22 rfl) (tgt := 63) (by decide) (fun c0 => ?_) (fun c0 => ?_)
    · rw [if_pos c0] at h
      refine r_pick [0] (lo' := [(0, .ref pL0)]) rfl ?_
      exact hk63 _ h
    · rw [if_neg c0] at h
      refine r_aload_n (dc_X8_begin 23 rfl) rfl rfl ?_
      obtain ⟨p8, e0, h⟩ := Option.bind_eq_some_iff.mp h
      refine r_getR (dc_X8_begin 24 rfl) fl_RX8_24 e0 ?_
      refine r_iload_n (dc_X8_begin 25 rfl) rfl rfl ?_
      obtain ⟨p9, e0, h⟩ := Option.bind_eq_some_iff.mp h
      refine r_aaldR (dc_X8_begin 26 rfl) (kd := 4) rfl e0 ?_
      obtain ⟨s10, e0, h⟩ := Option.bind_eq_some_iff.mp h
      refine r_callV (dc_X8_begin 27 rfl) mv_X6_clear ml_RX8_58 (As := []) (t_X6_clear (d := d - 1) hl (by omega) e0) (by omega) rfl (Nat.le_of_ble_eq_true rfl) ?_
      refine r_aload_n (dc_X8_begin 28 rfl) rfl rfl ?_
      obtain ⟨p11, e0, h⟩ := Option.bind_eq_some_iff.mp h
      refine r_getR (dc_X8_begin 29 rfl) fl_RX8_28 e0 ?_
      refine r_iload_n (dc_X8_begin 30 rfl) rfl rfl ?_
      obtain ⟨p12, e0, h⟩ := Option.bind_eq_some_iff.mp h
      refine r_aaldR (dc_X8_begin 31 rfl) (kd := 4) rfl e0 ?_
      obtain ⟨s13, e0, h⟩ := Option.bind_eq_some_iff.mp h
      refine r_callV (dc_X8_begin 32 rfl) mv_X6_clear ml_RX8_58 (As := []) (t_X6_clear (d := d - 1) hl (by omega) e0) (by omega) rfl (Nat.le_of_ble_eq_true rfl) ?_
      refine r_iinc (dc_X8_begin 33 rfl) rfl (kinc_1 _) (by decide) (lo' := [(2, .int (xL2 + (1 : Int32))), (0, .ref pL0)]) rfl ?_
      refine r_goto (dc_X8_begin 34 rfl) (tgt := 34) (by decide) ?_
      refine r_pick [1, 0] (lo' := [(0, .ref pL0), (2, .int (xL2 + (1 : Int32)))]) rfl ?_
      exact ih _ _ h
theorem l_X8_begin_L65 {G : Gx} {d : Nat} (hl : G.1.stackTraces = false) (hd : 2 ≤ d) {pL0 : Nat} {r : Sto} {k94 : Sto → Option Sto}
    (hk94 : ∀ (sL : Sto), k94 sL = some r → J G d m_X8_begin 94 [] [] sL (.inl none) r)
  : ∀ (f : Nat) (xL2 : Int32) (sL : Sto), F_X8_begin_L65 pL0 f xL2 sL k94 = some r → J G d m_X8_begin 65 [(0, .ref pL0), (2, .int xL2)] [] sL (.inl none) r := by
  intro f
  induction f with
  | zero => intro xL2 sL h; rw [F_X8_begin_L65] at h; cases h
  | succ f ih =>
    intro xL2 sL h
    rw [F_X8_begin_L65] at h
    refine r_iload_n (dc_X8_begin 37 rfl) rfl rfl ?_
    refine r_bipush (dc_X8_begin 38 rfl) kbipush_25 ?_
    refine r_icmp_ge (dc_X8_begin 39 rfl) (tgt := 94) (by decide) (fun c0 => ?_) (fun c0 => ?_)
    · rw [if_pos c0] at h
      refine r_pick [] (lo' := []) rfl ?_
      exact hk94 _ h
    · rw [if_neg c0] at h
      refine r_aload_n (dc_X8_begin 40 rfl) rfl rfl ?_
      obtain ⟨p15, e0, h⟩ := Option.bind_eq_some_iff.mp h
      refine r_getR (dc_X8_begin 41 rfl) fl_RX8_33 e0 ?_
      refine r_iload_n (dc_X8_begin 42 rfl) rfl rfl ?_
      obtain ⟨p16, e0, h⟩ := Option.bind_eq_some_iff.mp h
      refine r_aaldR (dc_X8_begin 43 rfl) (kd := 5) rfl e0 ?_
      refine r_iconst (dc_X8_begin 44 rfl) kiconst_0 ?_
      obtain ⟨s17, e0, h⟩ := Option.bind_eq_some_iff.mp h
      refine r_put (dc_X8_begin 45 rfl) pl_RX8_59 rfl e0 ?_
      refine r_aload_n (dc_X8_begin 46 rfl) rfl rfl ?_
      obtain ⟨p18, e0, h⟩ := Option.bind_eq_some_iff.mp h
      refine r_getR (dc_X8_begin 47 rfl) fl_RX8_37 e0 ?_
      refine r_iload_n (dc_X8_begin 48 rfl) rfl rfl ?_
      refine r_iconst (dc_X8_begin 49 rfl) kiconst_0 ?_
      obtain ⟨s19, e0, h⟩ := Option.bind_eq_some_iff.mp h
      refine r_zast (dc_X8_begin 50 rfl) e0 ?_
      refine r_iinc (dc_X8_begin 51 rfl) rfl (kinc_1 _) (by decide) (lo' := [(2, .int (xL2 + (1 : Int32))), (0, .ref pL0)]) rfl ?_
      refine r_goto (dc_X8_begin 52 rfl) (tgt := 65) (by decide) ?_
      refine r_pick [1, 0] (lo' := [(0, .ref pL0), (2, .int (xL2 + (1 : Int32)))]) rfl ?_
      exact ih _ _ h
