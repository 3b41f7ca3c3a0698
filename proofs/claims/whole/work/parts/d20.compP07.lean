theorem t_X8_begin {G : Gx} {d : Nat} (hl : G.1.stackTraces = false) (hd : 2 ≤ d) {σ : Sto} {a0 : Nat} {xa1 : Int32} {r : Sto} (h : F_X8_begin σ a0 xa1 = some r) : Mi G d m_X8_begin 8 a0 [.int xa1] σ (.inl none) r := by
  rw [F_X8_begin] at h
  obtain ⟨hg, h⟩ := chk_some h
  refine ⟨J.toMt (lo := [(0, .ref a0), (1, .int xa1)]) pn_RX8 rfl hl (Nat.le_of_ble_eq_true rfl) rfl ?_, hg⟩
  refine r_aload_n (dc_X8_begin 0 rfl) rfl rfl ?_
  refine r_iload_n (dc_X8_begin 1 rfl) rfl rfl ?_
  obtain ⟨s1, e0, h⟩ := Option.bind_eq_some_iff.mp h
  refine r_put (dc_X8_begin 2 rfl) pl_RX8_9 rfl e0 ?_
  refine r_aload_n (dc_X8_begin 3 rfl) rfl rfl ?_
  refine r_iconst (dc_X8_begin 4 rfl) kiconst_0 ?_
  obtain ⟨s2, e0, h⟩ := Option.bind_eq_some_iff.mp h
  refine r_put (dc_X8_begin 5 rfl) pl_RX8_43 rfl e0 ?_
  refine r_aload_n (dc_X8_begin 6 rfl) rfl rfl ?_
  refine r_iconst (dc_X8_begin 7 rfl) kiconst_0 ?_
  obtain ⟨s3, e0, h⟩ := Option.bind_eq_some_iff.mp h
  refine r_put (dc_X8_begin 8 rfl) pl_RX8_46 rfl e0 ?_
  refine r_aload_n (dc_X8_begin 9 rfl) rfl rfl ?_
  refine r_iconst (dc_X8_begin 10 rfl) kiconst_0 ?_
  obtain ⟨s4, e0, h⟩ := Option.bind_eq_some_iff.mp h
  refine r_put (dc_X8_begin 11 rfl) pl_RX8_49 rfl e0 ?_
  refine r_aload_n (dc_X8_begin 12 rfl) rfl rfl ?_
  refine r_iconst (dc_X8_begin 13 rfl) kiconst_0 ?_
  obtain ⟨s5, e0, h⟩ := Option.bind_eq_some_iff.mp h
  refine r_put (dc_X8_begin 14 rfl) pl_RX8_52 rfl e0 ?_
  refine r_aload_n (dc_X8_begin 15 rfl) rfl rfl ?_
  obtain ⟨p6, e0, h⟩ := Option.bind_eq_some_iff.mp h
  refine r_getR (dc_X8_begin 16 rfl) fl_RX8_18 e0 ?_
  obtain ⟨s7, e0, h⟩ := Option.bind_eq_some_iff.mp h
  refine r_callV (dc_X8_begin 17 rfl) mv_X2_clear ml_RX8_55 (As := []) (t_X2_clear (d := d - 1) hl (by omega) e0) (by omega) rfl (Nat.le_of_ble_eq_true rfl) ?_
  refine r_iconst (dc_X8_begin 18 rfl) kiconst_0 ?_
  refine r_istore_n (dc_X8_begin 19 rfl) rfl (by decide) (lo' := [(2, .int (0 : Int32)), (0, .ref a0), (1, .int xa1)]) rfl ?_
  refine r_pick [1, 0] (lo' := [(0, .ref a0), (2, .int (0 : Int32))]) rfl ?_
  refine l_X8_begin_L34 hl hd (hk63 := ?_) fu _ _ h
  · intro s14 h
    refine r_iconst (dc_X8_begin 35 rfl) kiconst_0 ?_
    refine r_istore_n (dc_X8_begin 36 rfl) rfl (by decide) (lo' := [(2, .int (0 : Int32)), (0, .ref a0)]) rfl ?_
    refine r_pick [1, 0] (lo' := [(0, .ref a0), (2, .int (0 : Int32))]) rfl ?_
    refine l_X8_begin_L65 hl hd (hk94 := ?_) fu _ _ h
    · intro s20 h
      cases h
      exact r_vreturn (dc_X8_begin 53 rfl) rfl
theorem l_X8_copyOf_L61 {G : Gx} {d : Nat} (hl : G.1.stackTraces = false) (hd : 5 ≤ d) {pL0 : Nat} {pL1 : Nat} {r : Sto} {k102 : Sto → Option Sto}
    (hk102 : ∀ (sL : Sto), k102 sL = some r → J G d m_X8_copyOf 102 [(0, .ref pL0), (1, .ref pL1)] [] sL (.inl none) r)
  : ∀ (f : Nat) (xL2 : Int32) (sL : Sto), F_X8_copyOf_L61 pL0 pL1 f xL2 sL k102 = some r → J G d m_X8_copyOf 61 [(0, .ref pL0), (1, .ref pL1), (2, .int xL2)] [] sL (.inl none) r := by
  intro f
  induction f with
  | zero => intro xL2 sL h; rw [F_X8_copyOf_L61] at h; cases h
  | succ f ih =>
    intro xL2 sL h
    rw [F_X8_copyOf_L61] at h
    refine r_iload_n (dc_X8_copyOf 31 rfl) rfl rfl ?_
    refine r_iconst (dc_X8_copyOf 32 rfl) kiconst_5 ?_
    refine r_icmp_ge (dc_X8_copyOf 33 rfl) (tgt := 102) (by decide) (fun c0 => ?_) (fun c0 => ?_)
    · rw [if_pos c0] at h
      refine r_pick [0, 1] (lo' := [(0, .ref pL0), (1, .ref pL1)]) rfl ?_
      exact hk102 _ h
    · rw [if_neg c0] at h
      refine r_aload_n (dc_X8_copyOf 34 rfl) rfl rfl ?_
      obtain ⟨p16, e0, h⟩ := Option.bind_eq_some_iff.mp h
      refine r_getR (dc_X8_copyOf 35 rfl) fl_RX8_24 e0 ?_
      refine r_iload_n (dc_X8_copyOf 36 rfl) rfl rfl ?_
      obtain ⟨p17, e0, h⟩ := Option.bind_eq_some_iff.mp h
      refine r_aaldR (dc_X8_copyOf 37 rfl) (kd := 4) rfl e0 ?_
      refine r_aload_n (dc_X8_copyOf 38 rfl) rfl rfl ?_
      obtain ⟨p18, e0, h⟩ := Option.bind_eq_some_iff.mp h
      refine r_getR (dc_X8_copyOf 39 rfl) fl_RX8_24 e0 ?_
      refine r_iload_n (dc_X8_copyOf 40 rfl) rfl rfl ?_
      obtain ⟨p19, e0, h⟩ := Option.bind_eq_some_iff.mp h
      refine r_aaldR (dc_X8_copyOf 41 rfl) (kd := 4) rfl e0 ?_
      obtain ⟨s20, e0, h⟩ := Option.bind_eq_some_iff.mp h
      refine r_callV (dc_X8_copyOf 42 rfl) mv_X6_copyOf ml_RX8_69 (As := [.ref p19]) (t_X6_copyOf (d := d - 1) hl (by omega) e0) (by omega) rfl (Nat.le_of_ble_eq_true rfl) ?_
      refine r_aload_n (dc_X8_copyOf 43 rfl) rfl rfl ?_
      obtain ⟨p21, e0, h⟩ := Option.bind_eq_some_iff.mp h
      refine r_getR (dc_X8_copyOf 44 rfl) fl_RX8_28 e0 ?_
      refine r_iload_n (dc_X8_copyOf 45 rfl) rfl rfl ?_
      obtain ⟨p22, e0, h⟩ := Option.bind_eq_some_iff.mp h
      refine r_aaldR (dc_X8_copyOf 46 rfl) (kd := 4) rfl e0 ?_
      refine r_aload_n (dc_X8_copyOf 47 rfl) rfl rfl ?_
      obtain ⟨p23, e0, h⟩ := Option.bind_eq_some_iff.mp h
      refine r_getR (dc_X8_copyOf 48 rfl) fl_RX8_28 e0 ?_
      refine r_iload_n (dc_X8_copyOf 49 rfl) rfl rfl ?_
      obtain ⟨p24, e0, h⟩ := Option.bind_eq_some_iff.mp h
      refine r_aaldR (dc_X8_copyOf 50 rfl) (kd := 4) rfl e0 ?_
      obtain ⟨s25, e0, h⟩ := Option.bind_eq_some_iff.mp h
      refine r_callV (dc_X8_copyOf 51 rfl) mv_X6_copyOf ml_RX8_69 (As := [.ref p24]) (t_X6_copyOf (d := d - 1) hl (by omega) e0) (by omega) rfl (Nat.le_of_ble_eq_true rfl) ?_
      refine r_iinc (dc_X8_copyOf 52 rfl) rfl (kinc_1 _) (by decide) (lo' := [(2, .int (xL2 + (1 : Int32))), (0, .ref pL0), (1, .ref pL1)]) rfl ?_
      refine r_goto (dc_X8_copyOf 53 rfl) (tgt := 61) (by decide) ?_
      refine r_pick [1, 2, 0] (lo' := [(0, .ref pL0), (1, .ref pL1), (2, .int (xL2 + (1 : Int32)))]) rfl ?_
      exact ih _ _ h
theorem l_X8_copyOf_L104 {G : Gx} {d : Nat} (hl : G.1.stackTraces = false) (hd : 5 ≤ d) {pL0 : Nat} {pL1 : Nat} {r : Sto} {k143 : Sto → Option Sto}
    (hk143 : ∀ (sL : Sto), k143 sL = some r → J G d m_X8_copyOf 143 [] [] sL (.inl none) r)
  : ∀ (f : Nat) (xL2 : Int32) (sL : Sto), F_X8_copyOf_L104 pL0 pL1 f xL2 sL k143 = some r → J G d m_X8_copyOf 104 [(0, .ref pL0), (1, .ref pL1), (2, .int xL2)] [] sL (.inl none) r := by
  intro f
  induction f with
  | zero => intro xL2 sL h; rw [F_X8_copyOf_L104] at h; cases h
  | succ f ih =>
    intro xL2 sL h
    rw [F_X8_copyOf_L104] at h
    refine r_iload_n (dc_X8_copyOf 56 rfl) rfl rfl ?_
    refine r_bipush (dc_X8_copyOf 57 rfl) kbipush_25 ?_
    refine r_icmp_ge (dc_X8_copyOf 58 rfl) (tgt := 143) (by decide) (fun c0 => ?_) (fun c0 => ?_)
    · rw [if_pos c0] at h
      refine r_pick [] (lo' := []) rfl ?_
      exact hk143 _ h
    · rw [if_neg c0] at h
      refine r_aload_n (dc_X8_copyOf 59 rfl) rfl rfl ?_
      obtain ⟨p27, e0, h⟩ := Option.bind_eq_some_iff.mp h
      refine r_getR (dc_X8_copyOf 60 rfl) fl_RX8_33 e0 ?_
      refine r_iload_n (dc_X8_copyOf 61 rfl) rfl rfl ?_
      obtain ⟨p28, e0, h⟩ := Option.bind_eq_some_iff.mp h
      refine r_aaldR (dc_X8_copyOf 62 rfl) (kd := 5) rfl e0 ?_
      refine r_aload_n (dc_X8_copyOf 63 rfl) rfl rfl ?_
      obtain ⟨p29, e0, h⟩ := Option.bind_eq_some_iff.mp h
      refine r_getR (dc_X8_copyOf 64 rfl) fl_RX8_33 e0 ?_
      refine r_iload_n (dc_X8_copyOf 65 rfl) rfl rfl ?_
      obtain ⟨p30, e0, h⟩ := Option.bind_eq_some_iff.mp h
      refine r_aaldR (dc_X8_copyOf 66 rfl) (kd := 5) rfl e0 ?_
      obtain ⟨s31, e0, h⟩ := Option.bind_eq_some_iff.mp h
      refine r_callV (dc_X8_copyOf 67 rfl) mv_X4_copyOf ml_RX8_72 (As := [.ref p30]) (t_X4_copyOf (d := d - 1) hl (by omega) e0) (by omega) rfl (Nat.le_of_ble_eq_true rfl) ?_
      refine r_aload_n (dc_X8_copyOf 68 rfl) rfl rfl ?_
      obtain ⟨p32, e0, h⟩ := Option.bind_eq_some_iff.mp h
      refine r_getR (dc_X8_copyOf 69 rfl) fl_RX8_37 e0 ?_
      refine r_iload_n (dc_X8_copyOf 70 rfl) rfl rfl ?_
      refine r_aload_n (dc_X8_copyOf 71 rfl) rfl rfl ?_
      obtain ⟨p33, e0, h⟩ := Option.bind_eq_some_iff.mp h
      refine r_getR (dc_X8_copyOf 72 rfl) fl_RX8_37 e0 ?_
      refine r_iload_n (dc_X8_copyOf 73 rfl) rfl rfl ?_
      obtain ⟨x34, e0, h⟩ := Option.bind_eq_some_iff.mp h
      refine r_zald (dc_X8_copyOf 74 rfl) e0 ?_
      obtain ⟨s35, e0, h⟩ := Option.bind_eq_some_iff.mp h
      refine r_zast (dc_X8_copyOf 75 rfl) e0 ?_
      refine r_iinc (dc_X8_copyOf 76 rfl) rfl (kinc_1 _) (by decide) (lo' := [(2, .int (xL2 + (1 : Int32))), (0, .ref pL0), (1, .ref pL1)]) rfl ?_
      refine r_goto (dc_X8_copyOf 77 rfl) (tgt := 104) (by decide) ?_
      refine r_pick [1, 2, 0] (lo' := [(0, .ref pL0), (1, .ref pL1), (2, .int (xL2 + (1 : Int32)))]) rfl ?_
      exact ih _ _ h
theorem t_X8_copyOf {G : Gx} {d : Nat} (hl : G.1.stackTraces = false) (hd : 5 ≤ d) {σ : Sto} {a0 : Nat} {pa1 : Nat} {r : Sto} (h : F_X8_copyOf σ a0 pa1 = some r) : Mi G d m_X8_copyOf 8 a0 [.ref pa1] σ (.inl none) r := by
  rw [F_X8_copyOf] at h
  obtain ⟨hg, h⟩ := chk_some h
  refine ⟨J.toMt (lo := [(0, .ref a0), (1, .ref pa1)]) pn_RX8 rfl hl (Nat.le_of_ble_eq_true rfl) rfl ?_, hg⟩
  refine r_aload_n (dc_X8_copyOf 0 rfl) rfl rfl ?_
  refine r_aload_n (dc_X8_copyOf 1 rfl) rfl rfl ?_
  obtain ⟨x1, e0, h⟩ := Option.bind_eq_some_iff.mp h
  refine r_getI (dc_X8_copyOf 2 rfl) fl_RX8_9 e0 ?_
  obtain ⟨s2, e0, h⟩ := Option.bind_eq_some_iff.mp h
  refine r_put (dc_X8_copyOf 3 rfl) pl_RX8_9 rfl e0 ?_
  refine r_aload_n (dc_X8_copyOf 4 rfl) rfl rfl ?_
  refine r_aload_n (dc_X8_copyOf 5 rfl) rfl rfl ?_
  obtain ⟨x3, e0, h⟩ := Option.bind_eq_some_iff.mp h
  refine r_getI (dc_X8_copyOf 6 rfl) fl_RX8_62 e0 ?_
  obtain ⟨s4, e0, h⟩ := Option.bind_eq_some_iff.mp h
  refine r_put (dc_X8_copyOf 7 rfl) pl_RX8_62 rfl e0 ?_
  refine r_aload_n (dc_X8_copyOf 8 rfl) rfl rfl ?_
  refine r_aload_n (dc_X8_copyOf 9 rfl) rfl rfl ?_
  obtain ⟨x5, e0, h⟩ := Option.bind_eq_some_iff.mp h
  refine r_getI (dc_X8_copyOf 10 rfl) fl_RX8_43 e0 ?_
  obtain ⟨s6, e0, h⟩ := Option.bind_eq_some_iff.mp h
  refine r_put (dc_X8_copyOf 11 rfl) pl_RX8_43 rfl e0 ?_
  refine r_aload_n (dc_X8_copyOf 12 rfl) rfl rfl ?_
  refine r_aload_n (dc_X8_copyOf 13 rfl) rfl rfl ?_
  obtain ⟨x7, e0, h⟩ := Option.bind_eq_some_iff.mp h
  refine r_getI (dc_X8_copyOf 14 rfl) fl_RX8_46 e0 ?_
  obtain ⟨s8, e0, h⟩ := Option.bind_eq_some_iff.mp h
  refine r_put (dc_X8_copyOf 15 rfl) pl_RX8_46 rfl e0 ?_
  refine r_aload_n (dc_X8_copyOf 16 rfl) rfl rfl ?_
  refine r_aload_n (dc_X8_copyOf 17 rfl) rfl rfl ?_
  obtain ⟨x9, e0, h⟩ := Option.bind_eq_some_iff.mp h
  refine r_getI (dc_X8_copyOf 18 rfl) fl_RX8_49 e0 ?_
  obtain ⟨s10, e0, h⟩ := Option.bind_eq_some_iff.mp h
  refine r_put (dc_X8_copyOf 19 rfl) pl_RX8_49 rfl e0 ?_
  refine r_aload_n (dc_X8_copyOf 20 rfl) rfl rfl ?_
  refine r_aload_n (dc_X8_copyOf 21 rfl) rfl rfl ?_
  obtain ⟨x11, e0, h⟩ := Option.bind_eq_some_iff.mp h
  refine r_getI (dc_X8_copyOf 22 rfl) fl_RX8_52 e0 ?_
  obtain ⟨s12, e0, h⟩ := Option.bind_eq_some_iff.mp h
  refine r_put (dc_X8_copyOf 23 rfl) pl_RX8_52 rfl e0 ?_
  refine r_aload_n (dc_X8_copyOf 24 rfl) rfl rfl ?_
  obtain ⟨p13, e0, h⟩ := Option.bind_eq_some_iff.mp h
  refine r_getR (dc_X8_copyOf 25 rfl) fl_RX8_18 e0 ?_
  refine r_aload_n (dc_X8_copyOf 26 rfl) rfl rfl ?_
  obtain ⟨p14, e0, h⟩ := Option.bind_eq_some_iff.mp h
  refine r_getR (dc_X8_copyOf 27 rfl) fl_RX8_18 e0 ?_
  obtain ⟨s15, e0, h⟩ := Option.bind_eq_some_iff.mp h
  refine r_callV (dc_X8_copyOf 28 rfl) mv_X2_copyOf ml_RX8_65 (As := [.ref p14]) (t_X2_copyOf (d := d - 1) hl (by omega) e0) (by omega) rfl (Nat.le_of_ble_eq_true rfl) ?_
  refine r_iconst (dc_X8_copyOf 29 rfl) kiconst_0 ?_
  refine r_istore_n (dc_X8_copyOf 30 rfl) rfl (by decide) (lo' := [(2, .int (0 : Int32)), (0, .ref a0), (1, .ref pa1)]) rfl ?_
  refine r_pick [1, 2, 0] (lo' := [(0, .ref a0), (1, .ref pa1), (2, .int (0 : Int32))]) rfl ?_
  refine l_X8_copyOf_L61 hl hd (hk102 := ?_) fu _ _ h
  · intro s26 h
    refine r_iconst (dc_X8_copyOf 54 rfl) kiconst_0 ?_
    refine r_istore_n (dc_X8_copyOf 55 rfl) rfl (by decide) (lo' := [(2, .int (0 : Int32)), (0, .ref a0), (1, .ref pa1)]) rfl ?_
    refine r_pick [1, 2, 0] (lo' := [(0, .ref a0), (1, .ref pa1), (2, .int (0 : Int32))]) rfl ?_
    refine l_X8_copyOf_L104 hl hd (hk143 := ?_) fu _ _ h
    · intro s36 h
      cases h
      exact r_vreturn (dc_X8_copyOf 78 rfl) rfl
theorem t_X8_canPost {G : Gx} {d : Nat} (hl : G.1.stackTraces = false) (hd : 2 ≤ d) {σ : Sto} {a0 : Nat} {xa1 : Int32} {xa2 : Int32} {r : Int32} (h : F_X8_canPost σ a0 xa1 xa2 = some r) : Mi G d m_X8_canPost 8 a0 [.int xa1, .int xa2] σ (.inl (some (.int r))) σ := by
  rw [F_X8_canPost] at h
  obtain ⟨hg, h⟩ := chk_some h
  refine ⟨J.toMt (lo := [(0, .ref a0), (1, .int xa1), (2, .int xa2)]) pn_RX8 rfl hl (Nat.le_of_ble_eq_true rfl) rfl ?_, hg⟩
  refine r_aload_n (dc_X8_canPost 0 rfl) rfl rfl ?_
  refine r_iload_n (dc_X8_canPost 1 rfl) rfl rfl ?_
  refine r_iload_n (dc_X8_canPost 2 rfl) rfl rfl ?_
  obtain ⟨p1, e0, h⟩ := Option.bind_eq_some_iff.mp h
  refine r_callV (dc_X8_canPost 3 rfl) mv_X8_row ml_RX8_79 (As := [.int xa1, .int xa2]) (t_X8_row (d := d - 1) hl (by omega) e0) (by omega) rfl (Nat.le_of_ble_eq_true rfl) ?_
  obtain ⟨x2, e0, h⟩ := Option.bind_eq_some_iff.mp h
  refine r_callV (dc_X8_canPost 4 rfl) mv_X4_isFull ml_RX8_83 (As := []) (t_X4_isFull (d := d - 1) hl (by omega) e0) (by omega) rfl (Nat.le_of_ble_eq_true rfl) ?_
  refine r_if_ne (dc_X8_canPost 5 rfl) (tgt := 25) (by decide) (fun c0 => ?_) (fun c0 => ?_)
  · rw [if_neg c0] at h
    refine r_iconst (dc_X8_canPost 13 rfl) kiconst_0 ?_
    cases h
    exact r_zreturn (dc_X8_canPost 14 rfl) rfl (Or.inl rfl)
  · rw [if_pos c0] at h
    refine r_aload_n (dc_X8_canPost 6 rfl) rfl rfl ?_
    refine r_iload_n (dc_X8_canPost 7 rfl) rfl rfl ?_
    refine r_iload_n (dc_X8_canPost 8 rfl) rfl rfl ?_
    obtain ⟨x3, e0, h⟩ := Option.bind_eq_some_iff.mp h
    refine r_callV (dc_X8_canPost 9 rfl) mv_X8_isCut ml_RX8_87 (As := [.int xa1, .int xa2]) (t_X8_isCut (d := d - 1) hl (by omega) e0) (by omega) rfl (Nat.le_of_ble_eq_true rfl) ?_
    refine r_if_ne (dc_X8_canPost 10 rfl) (tgt := 25) (by decide) (fun c0 => ?_) (fun c0 => ?_)
    · rw [if_neg c0] at h
      refine r_iconst (dc_X8_canPost 13 rfl) kiconst_0 ?_
      cases h
      exact r_zreturn (dc_X8_canPost 14 rfl) rfl (Or.inl rfl)
    · rw [if_pos c0] at h
      refine r_iconst (dc_X8_canPost 11 rfl) kiconst_1 ?_
      refine r_goto (dc_X8_canPost 12 rfl) (tgt := 26) (by decide) ?_
      cases h
      exact r_zreturn (dc_X8_canPost 14 rfl) rfl (Or.inr rfl)
theorem t_X8_happen {G : Gx} {d : Nat} (hl : G.1.stackTraces = false) (hd : 3 ≤ d) {σ : Sto} {a0 : Nat} {xa1 : Int32} {xa2 : Int32} {xa3 : Int32} {r : (Int32 × Sto)} (h : F_X8_happen σ a0 xa1 xa2 xa3 = some r) : Mi G d m_X8_happen 8 a0 [.int xa1, .int xa2, .int xa3] σ (.inl (some (.int r.1))) r.2 := by
  rw [F_X8_happen] at h
  obtain ⟨hg, h⟩ := chk_some h
  refine ⟨J.toMt (lo := [(0, .ref a0), (1, .int xa1), (2, .int xa2), (3, .int xa3)]) pn_RX8 rfl hl (Nat.le_of_ble_eq_true rfl) rfl ?_, hg⟩
  refine r_aload_n (dc_X8_happen 0 rfl) rfl rfl ?_
  refine r_dup (dc_X8_happen 1 rfl) rfl ?_
  obtain ⟨x1, e0, h⟩ := Option.bind_eq_some_iff.mp h
  refine r_getI (dc_X8_happen 2 rfl) fl_RX8_43 e0 ?_
  refine r_iconst (dc_X8_happen 3 rfl) kiconst_1 ?_
  refine r_iadd (dc_X8_happen 4 rfl) ?_
  obtain ⟨s2, e0, h⟩ := Option.bind_eq_some_iff.mp h
  refine r_put (dc_X8_happen 5 rfl) pl_RX8_43 rfl e0 ?_
  refine r_aload_n (dc_X8_happen 6 rfl) rfl rfl ?_
  obtain ⟨p3, e0, h⟩ := Option.bind_eq_some_iff.mp h
  refine r_getR (dc_X8_happen 7 rfl) fl_RX8_18 e0 ?_
  refine r_iload_n (dc_X8_happen 8 rfl) rfl rfl ?_
  refine r_iload_n (dc_X8_happen 9 rfl) rfl rfl ?_
  refine r_iload_n (dc_X8_happen 10 rfl) rfl rfl ?_
  refine r_aload_n (dc_X8_happen 11 rfl) rfl rfl ?_
  obtain ⟨x4, e0, h⟩ := Option.bind_eq_some_iff.mp h
  refine r_getI (dc_X8_happen 12 rfl) fl_RX8_43 e0 ?_
  refine r_aload_n (dc_X8_happen 13 rfl) rfl rfl ?_
  obtain ⟨p5, e0, h⟩ := Option.bind_eq_some_iff.mp h
  refine r_getR (dc_X8_happen 14 rfl) fl_RX8_24 e0 ?_
  refine r_iload_n (dc_X8_happen 15 rfl) rfl rfl ?_
  obtain ⟨p6, e0, h⟩ := Option.bind_eq_some_iff.mp h
  refine r_aaldR (dc_X8_happen 16 rfl) (kd := 4) rfl e0 ?_
  obtain ⟨p7, e0, h⟩ := Option.bind_eq_some_iff.mp h
  refine r_getR (dc_X8_happen 17 rfl) fl_RX8_113 e0 ?_
  obtain ⟨x9, s8, e0, h⟩ := wb_some h
  refine r_callV (dc_X8_happen 18 rfl) mv_X2_append ml_RX8_116 (As := [.int xa1, .int xa2, .int xa3, .int x4, .ref p7]) (t_X2_append (d := d - 1) hl (by omega) e0) (by omega) rfl (Nat.le_of_ble_eq_true rfl) ?_
  refine r_istore (dc_X8_happen 19 rfl) (by decide) (lo' := [(4, .int x9), (0, .ref a0), (1, .int xa1), (2, .int xa2), (3, .int xa3)]) rfl ?_
  refine r_aload_n (dc_X8_happen 20 rfl) rfl rfl ?_
  obtain ⟨p10, e0, h⟩ := Option.bind_eq_some_iff.mp h
  refine r_getR (dc_X8_happen 21 rfl) fl_RX8_24 e0 ?_
  refine r_iload_n (dc_X8_happen 22 rfl) rfl rfl ?_
  obtain ⟨p11, e0, h⟩ := Option.bind_eq_some_iff.mp h
  refine r_aaldR (dc_X8_happen 23 rfl) (kd := 4) rfl e0 ?_
  refine r_aload_n (dc_X8_happen 24 rfl) rfl rfl ?_
  obtain ⟨p12, e0, h⟩ := Option.bind_eq_some_iff.mp h
  refine r_getR (dc_X8_happen 25 rfl) fl_RX8_18 e0 ?_
  refine r_iload (dc_X8_happen 26 rfl) rfl ?_
  obtain ⟨s13, e0, h⟩ := Option.bind_eq_some_iff.mp h
  refine r_callV (dc_X8_happen 27 rfl) mv_X6_ownEvent ml_RX8_120 (As := [.ref p12, .int x9]) (t_X6_ownEvent (d := d - 1) hl (by omega) e0) (by omega) rfl (Nat.le_of_ble_eq_true rfl) ?_
  refine r_iload (dc_X8_happen 28 rfl) rfl ?_
  cases h
  exact r_ireturn (dc_X8_happen 29 rfl) rfl
theorem t_X8_bringIn {G : Gx} {d : Nat} (hl : G.1.stackTraces = false) (hd : 4 ≤ d) {σ : Sto} {a0 : Nat} {xa1 : Int32} {xa2 : Int32} {r : (Int32 × Sto)} (h : F_X8_bringIn σ a0 xa1 xa2 = some r) : Mi G d m_X8_bringIn 8 a0 [.int xa1, .int xa2] σ (.inl (some (.int r.1))) r.2 := by
  rw [F_X8_bringIn] at h
  obtain ⟨hg, h⟩ := chk_some h
  refine ⟨J.toMt (lo := [(0, .ref a0), (1, .int xa1), (2, .int xa2)]) pn_RX8 rfl hl (Nat.le_of_ble_eq_true rfl) rfl ?_, hg⟩
  refine r_aload_n (dc_X8_bringIn 0 rfl) rfl rfl ?_
  refine r_iload_n (dc_X8_bringIn 1 rfl) rfl rfl ?_
  refine r_aload_n (dc_X8_bringIn 2 rfl) rfl rfl ?_
  obtain ⟨p1, e0, h⟩ := Option.bind_eq_some_iff.mp h
  refine r_getR (dc_X8_bringIn 3 rfl) fl_RX8_18 e0 ?_
  obtain ⟨x2, e0, h⟩ := Option.bind_eq_some_iff.mp h
  refine r_getI (dc_X8_bringIn 4 rfl) fl_RX8_91 e0 ?_
  refine r_iload_n (dc_X8_bringIn 5 rfl) rfl rfl ?_
  obtain ⟨x4, s3, e0, h⟩ := wb_some h
  refine r_callV (dc_X8_bringIn 6 rfl) mv_X8_happen ml_RX8_92 (As := [.int xa1, .int x2, .int xa2]) (t_X8_happen (d := d - 1) hl (by omega) e0) (by omega) rfl (Nat.le_of_ble_eq_true rfl) ?_
  refine r_istore_n (dc_X8_bringIn 7 rfl) rfl (by decide) (lo' := [(3, .int x4), (0, .ref a0), (1, .int xa1), (2, .int xa2)]) rfl ?_
  refine r_aload_n (dc_X8_bringIn 8 rfl) rfl rfl ?_
  obtain ⟨p5, e0, h⟩ := Option.bind_eq_some_iff.mp h
  refine r_getR (dc_X8_bringIn 9 rfl) fl_RX8_24 e0 ?_
  refine r_iload_n (dc_X8_bringIn 10 rfl) rfl rfl ?_
  obtain ⟨p6, e0, h⟩ := Option.bind_eq_some_iff.mp h
  refine r_aaldR (dc_X8_bringIn 11 rfl) (kd := 4) rfl e0 ?_
  obtain ⟨p7, e0, h⟩ := Option.bind_eq_some_iff.mp h
  refine r_getR (dc_X8_bringIn 12 rfl) fl_RX8_96 e0 ?_
  refine r_iload_n (dc_X8_bringIn 13 rfl) rfl rfl ?_
  obtain ⟨s8, e0, h⟩ := Option.bind_eq_some_iff.mp h
  refine r_callV (dc_X8_bringIn 14 rfl) mv_X1_insert ml_RX8_100 (As := [.int x4]) (t_X1_insert (d := d - 1) hl (by omega) e0) (by omega) rfl (Nat.le_of_ble_eq_true rfl) ?_
  refine r_iload_n (dc_X8_bringIn 15 rfl) rfl rfl ?_
  cases h
  exact r_ireturn (dc_X8_bringIn 16 rfl) rfl
theorem t_X8_takeOut {G : Gx} {d : Nat} (hl : G.1.stackTraces = false) (hd : 4 ≤ d) {σ : Sto} {a0 : Nat} {xa1 : Int32} {xa2 : Int32} {r : (Int32 × Sto)} (h : F_X8_takeOut σ a0 xa1 xa2 = some r) : Mi G d m_X8_takeOut 8 a0 [.int xa1, .int xa2] σ (.inl (some (.int r.1))) r.2 := by
  rw [F_X8_takeOut] at h
  obtain ⟨hg, h⟩ := chk_some h
  refine ⟨J.toMt (lo := [(0, .ref a0), (1, .int xa1), (2, .int xa2)]) pn_RX8 rfl hl (Nat.le_of_ble_eq_true rfl) rfl ?_, hg⟩
  refine r_aload_n (dc_X8_takeOut 0 rfl) rfl rfl ?_
  refine r_iload_n (dc_X8_takeOut 1 rfl) rfl rfl ?_
  refine r_iload_n (dc_X8_takeOut 2 rfl) rfl rfl ?_
  refine r_aload_n (dc_X8_takeOut 3 rfl) rfl rfl ?_
  obtain ⟨p1, e0, h⟩ := Option.bind_eq_some_iff.mp h
  refine r_getR (dc_X8_takeOut 4 rfl) fl_RX8_18 e0 ?_
  obtain ⟨p2, e0, h⟩ := Option.bind_eq_some_iff.mp h
  refine r_getR (dc_X8_takeOut 5 rfl) fl_RX8_106 e0 ?_
  refine r_iload_n (dc_X8_takeOut 6 rfl) rfl rfl ?_
  obtain ⟨x3, e0, h⟩ := Option.bind_eq_some_iff.mp h
  refine r_iald (dc_X8_takeOut 7 rfl) e0 ?_
  obtain ⟨x5, s4, e0, h⟩ := wb_some h
  refine r_callV (dc_X8_takeOut 8 rfl) mv_X8_happen ml_RX8_92 (As := [.int xa1, .int xa2, .int x3]) (t_X8_happen (d := d - 1) hl (by omega) e0) (by omega) rfl (Nat.le_of_ble_eq_true rfl) ?_
  refine r_istore_n (dc_X8_takeOut 9 rfl) rfl (by decide) (lo' := [(3, .int x5), (0, .ref a0), (1, .int xa1), (2, .int xa2)]) rfl ?_
  refine r_aload_n (dc_X8_takeOut 10 rfl) rfl rfl ?_
  obtain ⟨p6, e0, h⟩ := Option.bind_eq_some_iff.mp h
  refine r_getR (dc_X8_takeOut 11 rfl) fl_RX8_24 e0 ?_
  refine r_iload_n (dc_X8_takeOut 12 rfl) rfl rfl ?_
  obtain ⟨p7, e0, h⟩ := Option.bind_eq_some_iff.mp h
  refine r_aaldR (dc_X8_takeOut 13 rfl) (kd := 4) rfl e0 ?_
  obtain ⟨p8, e0, h⟩ := Option.bind_eq_some_iff.mp h
  refine r_getR (dc_X8_takeOut 14 rfl) fl_RX8_96 e0 ?_
  refine r_iload_n (dc_X8_takeOut 15 rfl) rfl rfl ?_
  obtain ⟨s9, e0, h⟩ := Option.bind_eq_some_iff.mp h
  refine r_callV (dc_X8_takeOut 16 rfl) mv_X1_remove ml_RX8_110 (As := [.int xa2]) (t_X1_remove (d := d - 1) hl (by omega) e0) (by omega) rfl (Nat.le_of_ble_eq_true rfl) ?_
  refine r_iload_n (dc_X8_takeOut 17 rfl) rfl rfl ?_
  cases h
  exact r_ireturn (dc_X8_takeOut 18 rfl) rfl
theorem t_X8_post {G : Gx} {d : Nat} (hl : G.1.stackTraces = false) (hd : 4 ≤ d) {σ : Sto} {a0 : Nat} {xa1 : Int32} {xa2 : Int32} {r : (Int32 × Sto)} (h : F_X8_post σ a0 xa1 xa2 = some r) : Mi G d m_X8_post 8 a0 [.int xa1, .int xa2] σ (.inl (some (.int r.1))) r.2 := by
  rw [F_X8_post] at h
  obtain ⟨hg, h⟩ := chk_some h
  refine ⟨J.toMt (lo := [(0, .ref a0), (1, .int xa1), (2, .int xa2)]) pn_RX8 rfl hl (Nat.le_of_ble_eq_true rfl) rfl ?_, hg⟩
  refine r_aload_n (dc_X8_post 0 rfl) rfl rfl ?_
  refine r_dup (dc_X8_post 1 rfl) rfl ?_
  obtain ⟨x1, e0, h⟩ := Option.bind_eq_some_iff.mp h
  refine r_getI (dc_X8_post 2 rfl) fl_RX8_43 e0 ?_
  refine r_iconst (dc_X8_post 3 rfl) kiconst_1 ?_
  refine r_iadd (dc_X8_post 4 rfl) ?_
  obtain ⟨s2, e0, h⟩ := Option.bind_eq_some_iff.mp h
  refine r_put (dc_X8_post 5 rfl) pl_RX8_43 rfl e0 ?_
  refine r_aload_n (dc_X8_post 6 rfl) rfl rfl ?_
  refine r_iload_n (dc_X8_post 7 rfl) rfl rfl ?_
  refine r_iload_n (dc_X8_post 8 rfl) rfl rfl ?_
  obtain ⟨p3, e0, h⟩ := Option.bind_eq_some_iff.mp h
  refine r_callV (dc_X8_post 9 rfl) mv_X8_row ml_RX8_79 (As := [.int xa1, .int xa2]) (t_X8_row (d := d - 1) hl (by omega) e0) (by omega) rfl (Nat.le_of_ble_eq_true rfl) ?_
  obtain ⟨p5, s4, e0, h⟩ := wb_some h
  refine r_callV (dc_X8_post 10 rfl) mv_X4_append ml_RX8_124 (As := []) (t_X4_append (d := d - 1) hl (by omega) e0) (by omega) rfl (Nat.le_of_ble_eq_true rfl) ?_
  refine r_astore_n (dc_X8_post 11 rfl) rfl (by decide) (lo' := [(3, .ref p5), (0, .ref a0), (1, .int xa1), (2, .int xa2)]) rfl ?_
  refine r_aload_n (dc_X8_post 12 rfl) rfl rfl ?_
  refine r_aload_n (dc_X8_post 13 rfl) rfl rfl ?_
  obtain ⟨p6, e0, h⟩ := Option.bind_eq_some_iff.mp h
  refine r_getR (dc_X8_post 14 rfl) fl_RX8_24 e0 ?_
  refine r_iload_n (dc_X8_post 15 rfl) rfl rfl ?_
  obtain ⟨p7, e0, h⟩ := Option.bind_eq_some_iff.mp h
  refine r_aaldR (dc_X8_post 16 rfl) (kd := 4) rfl e0 ?_
  refine r_aload_n (dc_X8_post 17 rfl) rfl rfl ?_
  obtain ⟨p8, e0, h⟩ := Option.bind_eq_some_iff.mp h
  refine r_getR (dc_X8_post 18 rfl) fl_RX8_18 e0 ?_
  refine r_iload_n (dc_X8_post 19 rfl) rfl rfl ?_
  refine r_iload_n (dc_X8_post 20 rfl) rfl rfl ?_
  refine r_aload_n (dc_X8_post 21 rfl) rfl rfl ?_
  obtain ⟨x9, e0, h⟩ := Option.bind_eq_some_iff.mp h
  refine r_getI (dc_X8_post 22 rfl) fl_RX8_62 e0 ?_
  obtain ⟨s10, e0, h⟩ := Option.bind_eq_some_iff.mp h
  refine r_callV (dc_X8_post 23 rfl) mv_X3_compose ml_RX8_127 (As := [.ref p7, .ref p8, .int xa1, .int xa2, .int x9]) (t_X3_compose (d := d - 1) hl (by omega) e0) (by omega) rfl (Nat.le_of_ble_eq_true rfl) ?_
  refine r_aload_n (dc_X8_post 24 rfl) rfl rfl ?_
  refine r_dup (dc_X8_post 25 rfl) rfl ?_
  obtain ⟨x11, e0, h⟩ := Option.bind_eq_some_iff.mp h
  refine r_getI (dc_X8_post 26 rfl) fl_RX8_46 e0 ?_
  refine r_iconst (dc_X8_post 27 rfl) kiconst_1 ?_
  refine r_iadd (dc_X8_post 28 rfl) ?_
  obtain ⟨s12, e0, h⟩ := Option.bind_eq_some_iff.mp h
  refine r_put (dc_X8_post 29 rfl) pl_RX8_46 rfl e0 ?_
  refine r_aload_n (dc_X8_post 30 rfl) rfl rfl ?_
  refine r_dup (dc_X8_post 31 rfl) rfl ?_
  obtain ⟨x13, e0, h⟩ := Option.bind_eq_some_iff.mp h
  refine r_getI (dc_X8_post 32 rfl) fl_RX8_49 e0 ?_
  refine r_aload_n (dc_X8_post 33 rfl) rfl rfl ?_
  obtain ⟨x14, e0, h⟩ := Option.bind_eq_some_iff.mp h
  refine r_getI (dc_X8_post 34 rfl) fl_RX8_133 e0 ?_
  refine r_iadd (dc_X8_post 35 rfl) ?_
  obtain ⟨s15, e0, h⟩ := Option.bind_eq_some_iff.mp h
  refine r_put (dc_X8_post 36 rfl) pl_RX8_49 rfl e0 ?_
  refine r_aload_n (dc_X8_post 37 rfl) rfl rfl ?_
  obtain ⟨x16, e0, h⟩ := Option.bind_eq_some_iff.mp h
  refine r_getI (dc_X8_post 38 rfl) fl_RX8_133 e0 ?_
  cases h
  exact r_ireturn (dc_X8_post 39 rfl) rfl
theorem t_X8_deliver {G : Gx} {d : Nat} (hl : G.1.stackTraces = false) (hd : 3 ≤ d) {σ : Sto} {a0 : Nat} {xa1 : Int32} {xa2 : Int32} {xa3 : Int32} {r : (Int32 × Sto)} (h : F_X8_deliver σ a0 xa1 xa2 xa3 = some r) : Mi G d m_X8_deliver 8 a0 [.int xa1, .int xa2, .int xa3] σ (.inl (some (.int r.1))) r.2 := by
  rw [F_X8_deliver] at h
  obtain ⟨hg, h⟩ := chk_some h
  refine ⟨J.toMt (lo := [(0, .ref a0), (1, .int xa1), (2, .int xa2), (3, .int xa3)]) pn_RX8 rfl hl (Nat.le_of_ble_eq_true rfl) rfl ?_, hg⟩
  refine r_aload_n (dc_X8_deliver 0 rfl) rfl rfl ?_
  refine r_dup (dc_X8_deliver 1 rfl) rfl ?_
  obtain ⟨x1, e0, h⟩ := Option.bind_eq_some_iff.mp h
  refine r_getI (dc_X8_deliver 2 rfl) fl_RX8_43 e0 ?_
  refine r_iconst (dc_X8_deliver 3 rfl) kiconst_1 ?_
  refine r_iadd (dc_X8_deliver 4 rfl) ?_
  obtain ⟨s2, e0, h⟩ := Option.bind_eq_some_iff.mp h
  refine r_put (dc_X8_deliver 5 rfl) pl_RX8_43 rfl e0 ?_
  refine r_aload_n (dc_X8_deliver 6 rfl) rfl rfl ?_
  refine r_iload_n (dc_X8_deliver 7 rfl) rfl rfl ?_
  refine r_iload_n (dc_X8_deliver 8 rfl) rfl rfl ?_
  obtain ⟨p3, e0, h⟩ := Option.bind_eq_some_iff.mp h
  refine r_callV (dc_X8_deliver 9 rfl) mv_X8_row ml_RX8_79 (As := [.int xa1, .int xa2]) (t_X8_row (d := d - 1) hl (by omega) e0) (by omega) rfl (Nat.le_of_ble_eq_true rfl) ?_
  refine r_iload_n (dc_X8_deliver 10 rfl) rfl rfl ?_
  obtain ⟨p5, s4, e0, h⟩ := wb_some h
  refine r_callV (dc_X8_deliver 11 rfl) mv_X4_at ml_RX8_134 (As := [.int xa3]) (t_X4_at (d := d - 1) hl (by omega) e0) (by omega) rfl (Nat.le_of_ble_eq_true rfl) ?_
  refine r_astore (dc_X8_deliver 12 rfl) (by decide) (lo' := [(4, .ref p5), (0, .ref a0), (1, .int xa1), (2, .int xa2), (3, .int xa3)]) rfl ?_
  refine r_aload_n (dc_X8_deliver 13 rfl) rfl rfl ?_
  obtain ⟨p6, e0, h⟩ := Option.bind_eq_some_iff.mp h
  refine r_getR (dc_X8_deliver 14 rfl) fl_RX8_24 e0 ?_
  refine r_iload_n (dc_X8_deliver 15 rfl) rfl rfl ?_
  obtain ⟨p7, e0, h⟩ := Option.bind_eq_some_iff.mp h
  refine r_aaldR (dc_X8_deliver 16 rfl) (kd := 4) rfl e0 ?_
  refine r_aload (dc_X8_deliver 17 rfl) rfl ?_
  refine r_aload_n (dc_X8_deliver 18 rfl) rfl rfl ?_
  obtain ⟨p8, e0, h⟩ := Option.bind_eq_some_iff.mp h
  refine r_getR (dc_X8_deliver 19 rfl) fl_RX8_18 e0 ?_
  refine r_aload_n (dc_X8_deliver 20 rfl) rfl rfl ?_
  obtain ⟨x9, e0, h⟩ := Option.bind_eq_some_iff.mp h
  refine r_getI (dc_X8_deliver 21 rfl) fl_RX8_9 e0 ?_
  refine r_aload_n (dc_X8_deliver 22 rfl) rfl rfl ?_
  obtain ⟨x10, e0, h⟩ := Option.bind_eq_some_iff.mp h
  refine r_getI (dc_X8_deliver 23 rfl) fl_RX8_43 e0 ?_
  obtain ⟨x12, s11, e0, h⟩ := wb_some h
  refine r_callV (dc_X8_deliver 24 rfl) mv_X6_receive ml_RX8_138 (As := [.ref p5, .ref p8, .int x9, .int x10]) (t_X6_receive (d := d - 1) hl (by omega) e0) (by omega) rfl (Nat.le_of_ble_eq_true rfl) ?_
  refine r_istore (dc_X8_deliver 25 rfl) (by decide) (lo' := [(5, .int x12), (4, .ref p5), (0, .ref a0), (1, .int xa1), (2, .int xa2), (3, .int xa3)]) rfl ?_
  refine r_aload_n (dc_X8_deliver 26 rfl) rfl rfl ?_
  refine r_dup (dc_X8_deliver 27 rfl) rfl ?_
  obtain ⟨x13, e0, h⟩ := Option.bind_eq_some_iff.mp h
  refine r_getI (dc_X8_deliver 28 rfl) fl_RX8_52 e0 ?_
  refine r_aload (dc_X8_deliver 29 rfl) rfl ?_
  obtain ⟨x14, e0, h⟩ := Option.bind_eq_some_iff.mp h
  refine r_getI (dc_X8_deliver 30 rfl) fl_RX8_133 e0 ?_
  refine r_iload (dc_X8_deliver 31 rfl) rfl ?_
  refine r_isub (dc_X8_deliver 32 rfl) ?_
  refine r_iadd (dc_X8_deliver 33 rfl) ?_
  obtain ⟨s15, e0, h⟩ := Option.bind_eq_some_iff.mp h
  refine r_put (dc_X8_deliver 34 rfl) pl_RX8_52 rfl e0 ?_
  refine r_aload_n (dc_X8_deliver 35 rfl) rfl rfl ?_
  refine r_iload_n (dc_X8_deliver 36 rfl) rfl rfl ?_
  refine r_iload_n (dc_X8_deliver 37 rfl) rfl rfl ?_
  obtain ⟨p16, e0, h⟩ := Option.bind_eq_some_iff.mp h
  refine r_callV (dc_X8_deliver 38 rfl) mv_X8_row ml_RX8_79 (As := [.int xa1, .int xa2]) (t_X8_row (d := d - 1) hl (by omega) e0) (by omega) rfl (Nat.le_of_ble_eq_true rfl) ?_
  refine r_iload_n (dc_X8_deliver 39 rfl) rfl rfl ?_
  obtain ⟨s17, e0, h⟩ := Option.bind_eq_some_iff.mp h
  refine r_callV (dc_X8_deliver 40 rfl) mv_X4_remove ml_RX8_142 (As := [.int xa3]) (t_X4_remove (d := d - 1) hl (by omega) e0) (by omega) rfl (Nat.le_of_ble_eq_true rfl) ?_
  refine r_iload (dc_X8_deliver 41 rfl) rfl ?_
  cases h
  exact r_ireturn (dc_X8_deliver 42 rfl) rfl
theorem t_X8_discard {G : Gx} {d : Nat} (hl : G.1.stackTraces = false) (hd : 2 ≤ d) {σ : Sto} {a0 : Nat} {xa1 : Int32} {xa2 : Int32} {xa3 : Int32} {r : (Int32 × Sto)} (h : F_X8_discard σ a0 xa1 xa2 xa3 = some r) : Mi G d m_X8_discard 8 a0 [.int xa1, .int xa2, .int xa3] σ (.inl (some (.int r.1))) r.2 := by
  rw [F_X8_discard] at h
  obtain ⟨hg, h⟩ := chk_some h
  refine ⟨J.toMt (lo := [(0, .ref a0), (1, .int xa1), (2, .int xa2), (3, .int xa3)]) pn_RX8 rfl hl (Nat.le_of_ble_eq_true rfl) rfl ?_, hg⟩
  refine r_aload_n (dc_X8_discard 0 rfl) rfl rfl ?_
  refine r_dup (dc_X8_discard 1 rfl) rfl ?_
  obtain ⟨x1, e0, h⟩ := Option.bind_eq_some_iff.mp h
  refine r_getI (dc_X8_discard 2 rfl) fl_RX8_43 e0 ?_
  refine r_iconst (dc_X8_discard 3 rfl) kiconst_1 ?_
  refine r_iadd (dc_X8_discard 4 rfl) ?_
  obtain ⟨s2, e0, h⟩ := Option.bind_eq_some_iff.mp h
  refine r_put (dc_X8_discard 5 rfl) pl_RX8_43 rfl e0 ?_
  refine r_aload_n (dc_X8_discard 6 rfl) rfl rfl ?_
  refine r_iload_n (dc_X8_discard 7 rfl) rfl rfl ?_
  refine r_iload_n (dc_X8_discard 8 rfl) rfl rfl ?_
  obtain ⟨p3, e0, h⟩ := Option.bind_eq_some_iff.mp h
  refine r_callV (dc_X8_discard 9 rfl) mv_X8_row ml_RX8_79 (As := [.int xa1, .int xa2]) (t_X8_row (d := d - 1) hl (by omega) e0) (by omega) rfl (Nat.le_of_ble_eq_true rfl) ?_
  refine r_iload_n (dc_X8_discard 10 rfl) rfl rfl ?_
  obtain ⟨s4, e0, h⟩ := Option.bind_eq_some_iff.mp h
  refine r_callV (dc_X8_discard 11 rfl) mv_X4_remove ml_RX8_142 (As := [.int xa3]) (t_X4_remove (d := d - 1) hl (by omega) e0) (by omega) rfl (Nat.le_of_ble_eq_true rfl) ?_
  refine r_aload_n (dc_X8_discard 12 rfl) rfl rfl ?_
  refine r_iload_n (dc_X8_discard 13 rfl) rfl rfl ?_
  refine r_iload_n (dc_X8_discard 14 rfl) rfl rfl ?_
  obtain ⟨p5, e0, h⟩ := Option.bind_eq_some_iff.mp h
  refine r_callV (dc_X8_discard 15 rfl) mv_X8_row ml_RX8_79 (As := [.int xa1, .int xa2]) (t_X8_row (d := d - 1) hl (by omega) e0) (by omega) rfl (Nat.le_of_ble_eq_true rfl) ?_
  obtain ⟨x6, e0, h⟩ := Option.bind_eq_some_iff.mp h
  refine r_getI (dc_X8_discard 16 rfl) fl_RX8_59 e0 ?_
  cases h
  exact r_ireturn (dc_X8_discard 17 rfl) rfl
theorem t_X8_repeat {G : Gx} {d : Nat} (hl : G.1.stackTraces = false) (hd : 4 ≤ d) {σ : Sto} {a0 : Nat} {xa1 : Int32} {xa2 : Int32} {xa3 : Int32} {r : (Int32 × Sto)} (h : F_X8_repeat σ a0 xa1 xa2 xa3 = some r) : Mi G d m_X8_repeat 8 a0 [.int xa1, .int xa2, .int xa3] σ (.inl (some (.int r.1))) r.2 := by
  rw [F_X8_repeat] at h
  obtain ⟨hg, h⟩ := chk_some h
  refine ⟨J.toMt (lo := [(0, .ref a0), (1, .int xa1), (2, .int xa2), (3, .int xa3)]) pn_RX8 rfl hl (Nat.le_of_ble_eq_true rfl) rfl ?_, hg⟩
  refine r_aload_n (dc_X8_repeat 0 rfl) rfl rfl ?_
  refine r_dup (dc_X8_repeat 1 rfl) rfl ?_
  obtain ⟨x1, e0, h⟩ := Option.bind_eq_some_iff.mp h
  refine r_getI (dc_X8_repeat 2 rfl) fl_RX8_43 e0 ?_
  refine r_iconst (dc_X8_repeat 3 rfl) kiconst_1 ?_
  refine r_iadd (dc_X8_repeat 4 rfl) ?_
  obtain ⟨s2, e0, h⟩ := Option.bind_eq_some_iff.mp h
  refine r_put (dc_X8_repeat 5 rfl) pl_RX8_43 rfl e0 ?_
  refine r_aload_n (dc_X8_repeat 6 rfl) rfl rfl ?_
  refine r_iload_n (dc_X8_repeat 7 rfl) rfl rfl ?_
  refine r_iload_n (dc_X8_repeat 8 rfl) rfl rfl ?_
  obtain ⟨p3, e0, h⟩ := Option.bind_eq_some_iff.mp h
  refine r_callV (dc_X8_repeat 9 rfl) mv_X8_row ml_RX8_79 (As := [.int xa1, .int xa2]) (t_X8_row (d := d - 1) hl (by omega) e0) (by omega) rfl (Nat.le_of_ble_eq_true rfl) ?_
  refine r_iload_n (dc_X8_repeat 10 rfl) rfl rfl ?_
  obtain ⟨p5, s4, e0, h⟩ := wb_some h
  refine r_callV (dc_X8_repeat 11 rfl) mv_X4_at ml_RX8_134 (As := [.int xa3]) (t_X4_at (d := d - 1) hl (by omega) e0) (by omega) rfl (Nat.le_of_ble_eq_true rfl) ?_
  refine r_astore (dc_X8_repeat 12 rfl) (by decide) (lo' := [(4, .ref p5), (0, .ref a0), (1, .int xa1), (2, .int xa2), (3, .int xa3)]) rfl ?_
  refine r_aload_n (dc_X8_repeat 13 rfl) rfl rfl ?_
  refine r_iload_n (dc_X8_repeat 14 rfl) rfl rfl ?_
  refine r_iload_n (dc_X8_repeat 15 rfl) rfl rfl ?_
  obtain ⟨p6, e0, h⟩ := Option.bind_eq_some_iff.mp h
  refine r_callV (dc_X8_repeat 16 rfl) mv_X8_row ml_RX8_79 (As := [.int xa1, .int xa2]) (t_X8_row (d := d - 1) hl (by omega) e0) (by omega) rfl (Nat.le_of_ble_eq_true rfl) ?_
  obtain ⟨p8, s7, e0, h⟩ := wb_some h
  refine r_callV (dc_X8_repeat 17 rfl) mv_X4_append ml_RX8_124 (As := []) (t_X4_append (d := d - 1) hl (by omega) e0) (by omega) rfl (Nat.le_of_ble_eq_true rfl) ?_
  refine r_aload (dc_X8_repeat 18 rfl) rfl ?_
  obtain ⟨s9, e0, h⟩ := Option.bind_eq_some_iff.mp h
  refine r_callV (dc_X8_repeat 19 rfl) mv_X3_copyOf ml_RX8_143 (As := [.ref p5]) (t_X3_copyOf (d := d - 1) hl (by omega) e0) (by omega) rfl (Nat.le_of_ble_eq_true rfl) ?_
  refine r_aload_n (dc_X8_repeat 20 rfl) rfl rfl ?_
  refine r_iload_n (dc_X8_repeat 21 rfl) rfl rfl ?_
  refine r_iload_n (dc_X8_repeat 22 rfl) rfl rfl ?_
  obtain ⟨p10, e0, h⟩ := Option.bind_eq_some_iff.mp h
  refine r_callV (dc_X8_repeat 23 rfl) mv_X8_row ml_RX8_79 (As := [.int xa1, .int xa2]) (t_X8_row (d := d - 1) hl (by omega) e0) (by omega) rfl (Nat.le_of_ble_eq_true rfl) ?_
  obtain ⟨x11, e0, h⟩ := Option.bind_eq_some_iff.mp h
  refine r_getI (dc_X8_repeat 24 rfl) fl_RX8_59 e0 ?_
  cases h
  exact r_ireturn (dc_X8_repeat 25 rfl) rfl
theorem t_X8_store {G : Gx} {d : Nat} (hl : G.1.stackTraces = false) (hd : 4 ≤ d) {σ : Sto} {a0 : Nat} {xa1 : Int32} {r : (Int32 × Sto)} (h : F_X8_store σ a0 xa1 = some r) : Mi G d m_X8_store 8 a0 [.int xa1] σ (.inl (some (.int r.1))) r.2 := by
  rw [F_X8_store] at h
  obtain ⟨hg, h⟩ := chk_some h
  refine ⟨J.toMt (lo := [(0, .ref a0), (1, .int xa1)]) pn_RX8 rfl hl (Nat.le_of_ble_eq_true rfl) rfl ?_, hg⟩
  refine r_aload_n (dc_X8_store 0 rfl) rfl rfl ?_
  refine r_dup (dc_X8_store 1 rfl) rfl ?_
  obtain ⟨x1, e0, h⟩ := Option.bind_eq_some_iff.mp h
  refine r_getI (dc_X8_store 2 rfl) fl_RX8_43 e0 ?_
  refine r_iconst (dc_X8_store 3 rfl) kiconst_1 ?_
  refine r_iadd (dc_X8_store 4 rfl) ?_
  obtain ⟨s2, e0, h⟩ := Option.bind_eq_some_iff.mp h
  refine r_put (dc_X8_store 5 rfl) pl_RX8_43 rfl e0 ?_
  refine r_aload_n (dc_X8_store 6 rfl) rfl rfl ?_
  obtain ⟨p3, e0, h⟩ := Option.bind_eq_some_iff.mp h
  refine r_getR (dc_X8_store 7 rfl) fl_RX8_28 e0 ?_
  refine r_iload_n (dc_X8_store 8 rfl) rfl rfl ?_
  obtain ⟨p4, e0, h⟩ := Option.bind_eq_some_iff.mp h
  refine r_aaldR (dc_X8_store 9 rfl) (kd := 4) rfl e0 ?_
  refine r_aload_n (dc_X8_store 10 rfl) rfl rfl ?_
  obtain ⟨p5, e0, h⟩ := Option.bind_eq_some_iff.mp h
  refine r_getR (dc_X8_store 11 rfl) fl_RX8_24 e0 ?_
  refine r_iload_n (dc_X8_store 12 rfl) rfl rfl ?_
  obtain ⟨p6, e0, h⟩ := Option.bind_eq_some_iff.mp h
  refine r_aaldR (dc_X8_store 13 rfl) (kd := 4) rfl e0 ?_
  obtain ⟨s7, e0, h⟩ := Option.bind_eq_some_iff.mp h
  refine r_callV (dc_X8_store 14 rfl) mv_X6_copyOf ml_RX8_69 (As := [.ref p6]) (t_X6_copyOf (d := d - 1) hl (by omega) e0) (by omega) rfl (Nat.le_of_ble_eq_true rfl) ?_
  refine r_aload_n (dc_X8_store 15 rfl) rfl rfl ?_
  obtain ⟨p8, e0, h⟩ := Option.bind_eq_some_iff.mp h
  refine r_getR (dc_X8_store 16 rfl) fl_RX8_24 e0 ?_
  refine r_iload_n (dc_X8_store 17 rfl) rfl rfl ?_
  obtain ⟨p9, e0, h⟩ := Option.bind_eq_some_iff.mp h
  refine r_aaldR (dc_X8_store 18 rfl) (kd := 4) rfl e0 ?_
  obtain ⟨p10, e0, h⟩ := Option.bind_eq_some_iff.mp h
  refine r_getR (dc_X8_store 19 rfl) fl_RX8_113 e0 ?_
  obtain ⟨x11, e0, h⟩ := Option.bind_eq_some_iff.mp h
  refine r_callV (dc_X8_store 20 rfl) mv_X1_size ml_RX8_146 (As := []) (t_X1_size (d := d - 1) hl (by omega) e0) (by omega) rfl (Nat.le_of_ble_eq_true rfl) ?_
  cases h
  exact r_ireturn (dc_X8_store 21 rfl) rfl
theorem t_X8_restore {G : Gx} {d : Nat} (hl : G.1.stackTraces = false) (hd : 4 ≤ d) {σ : Sto} {a0 : Nat} {xa1 : Int32} {r : (Int32 × Sto)} (h : F_X8_restore σ a0 xa1 = some r) : Mi G d m_X8_restore 8 a0 [.int xa1] σ (.inl (some (.int r.1))) r.2 := by
  rw [F_X8_restore] at h
  obtain ⟨hg, h⟩ := chk_some h
  refine ⟨J.toMt (lo := [(0, .ref a0), (1, .int xa1)]) pn_RX8 rfl hl (Nat.le_of_ble_eq_true rfl) rfl ?_, hg⟩
  refine r_aload_n (dc_X8_restore 0 rfl) rfl rfl ?_
  refine r_dup (dc_X8_restore 1 rfl) rfl ?_
  obtain ⟨x1, e0, h⟩ := Option.bind_eq_some_iff.mp h
  refine r_getI (dc_X8_restore 2 rfl) fl_RX8_43 e0 ?_
  refine r_iconst (dc_X8_restore 3 rfl) kiconst_1 ?_
  refine r_iadd (dc_X8_restore 4 rfl) ?_
  obtain ⟨s2, e0, h⟩ := Option.bind_eq_some_iff.mp h
  refine r_put (dc_X8_restore 5 rfl) pl_RX8_43 rfl e0 ?_
  refine r_aload_n (dc_X8_restore 6 rfl) rfl rfl ?_
  obtain ⟨p3, e0, h⟩ := Option.bind_eq_some_iff.mp h
  refine r_getR (dc_X8_restore 7 rfl) fl_RX8_24 e0 ?_
  refine r_iload_n (dc_X8_restore 8 rfl) rfl rfl ?_
  obtain ⟨p4, e0, h⟩ := Option.bind_eq_some_iff.mp h
  refine r_aaldR (dc_X8_restore 9 rfl) (kd := 4) rfl e0 ?_
  obtain ⟨p5, e0, h⟩ := Option.bind_eq_some_iff.mp h
  refine r_getR (dc_X8_restore 10 rfl) fl_RX8_113 e0 ?_
  refine r_astore_n (dc_X8_restore 11 rfl) rfl (by decide) (lo' := [(2, .ref p5), (0, .ref a0), (1, .int xa1)]) rfl ?_
  refine r_aload_n (dc_X8_restore 12 rfl) rfl rfl ?_
  obtain ⟨x6, e0, h⟩ := Option.bind_eq_some_iff.mp h
  refine r_callV (dc_X8_restore 13 rfl) mv_X1_size ml_RX8_146 (As := []) (t_X1_size (d := d - 1) hl (by omega) e0) (by omega) rfl (Nat.le_of_ble_eq_true rfl) ?_
  refine r_aload_n (dc_X8_restore 14 rfl) rfl rfl ?_
  refine r_aload_n (dc_X8_restore 15 rfl) rfl rfl ?_
  obtain ⟨p7, e0, h⟩ := Option.bind_eq_some_iff.mp h
  refine r_getR (dc_X8_restore 16 rfl) fl_RX8_28 e0 ?_
  refine r_iload_n (dc_X8_restore 17 rfl) rfl rfl ?_
  obtain ⟨p8, e0, h⟩ := Option.bind_eq_some_iff.mp h
  refine r_aaldR (dc_X8_restore 18 rfl) (kd := 4) rfl e0 ?_
  obtain ⟨p9, e0, h⟩ := Option.bind_eq_some_iff.mp h
  refine r_getR (dc_X8_restore 19 rfl) fl_RX8_113 e0 ?_
  obtain ⟨x10, e0, h⟩ := Option.bind_eq_some_iff.mp h
  refine r_callV (dc_X8_restore 20 rfl) mv_X1_shared ml_RX8_149 (As := [.ref p9]) (t_X1_shared (d := d - 1) hl (by omega) e0) (by omega) rfl (Nat.le_of_ble_eq_true rfl) ?_
  refine r_isub (dc_X8_restore 21 rfl) ?_
  refine r_istore_n (dc_X8_restore 22 rfl) rfl (by decide) (lo' := [(3, .int (x6 - x10)), (2, .ref p5), (0, .ref a0), (1, .int xa1)]) rfl ?_
  refine r_aload_n (dc_X8_restore 23 rfl) rfl rfl ?_
  obtain ⟨p11, e0, h⟩ := Option.bind_eq_some_iff.mp h
  refine r_getR (dc_X8_restore 24 rfl) fl_RX8_24 e0 ?_
  refine r_iload_n (dc_X8_restore 25 rfl) rfl rfl ?_
  obtain ⟨p12, e0, h⟩ := Option.bind_eq_some_iff.mp h
  refine r_aaldR (dc_X8_restore 26 rfl) (kd := 4) rfl e0 ?_
  refine r_aload_n (dc_X8_restore 27 rfl) rfl rfl ?_
  obtain ⟨p13, e0, h⟩ := Option.bind_eq_some_iff.mp h
  refine r_getR (dc_X8_restore 28 rfl) fl_RX8_28 e0 ?_
  refine r_iload_n (dc_X8_restore 29 rfl) rfl rfl ?_
  obtain ⟨p14, e0, h⟩ := Option.bind_eq_some_iff.mp h
  refine r_aaldR (dc_X8_restore 30 rfl) (kd := 4) rfl e0 ?_
  obtain ⟨s15, e0, h⟩ := Option.bind_eq_some_iff.mp h
  refine r_callV (dc_X8_restore 31 rfl) mv_X6_copyOf ml_RX8_69 (As := [.ref p14]) (t_X6_copyOf (d := d - 1) hl (by omega) e0) (by omega) rfl (Nat.le_of_ble_eq_true rfl) ?_
  refine r_iload_n (dc_X8_restore 32 rfl) rfl rfl ?_
  cases h
  exact r_ireturn (dc_X8_restore 33 rfl) rfl
theorem t_X8_adopt {G : Gx} {d : Nat} (hl : G.1.stackTraces = false) (hd : 4 ≤ d) {σ : Sto} {a0 : Nat} {xa1 : Int32} {xa2 : Int32} {r : (Int32 × Sto)} (h : F_X8_adopt σ a0 xa1 xa2 = some r) : Mi G d m_X8_adopt 8 a0 [.int xa1, .int xa2] σ (.inl (some (.int r.1))) r.2 := by
  rw [F_X8_adopt] at h
  obtain ⟨hg, h⟩ := chk_some h
  refine ⟨J.toMt (lo := [(0, .ref a0), (1, .int xa1), (2, .int xa2)]) pn_RX8 rfl hl (Nat.le_of_ble_eq_true rfl) rfl ?_, hg⟩
  refine r_aload_n (dc_X8_adopt 0 rfl) rfl rfl ?_
  refine r_dup (dc_X8_adopt 1 rfl) rfl ?_
  obtain ⟨x1, e0, h⟩ := Option.bind_eq_some_iff.mp h
  refine r_getI (dc_X8_adopt 2 rfl) fl_RX8_43 e0 ?_
  refine r_iconst (dc_X8_adopt 3 rfl) kiconst_1 ?_
  refine r_iadd (dc_X8_adopt 4 rfl) ?_
  obtain ⟨s2, e0, h⟩ := Option.bind_eq_some_iff.mp h
  refine r_put (dc_X8_adopt 5 rfl) pl_RX8_43 rfl e0 ?_
  refine r_aload_n (dc_X8_adopt 6 rfl) rfl rfl ?_
  obtain ⟨p3, e0, h⟩ := Option.bind_eq_some_iff.mp h
  refine r_getR (dc_X8_adopt 7 rfl) fl_RX8_24 e0 ?_
  refine r_iload_n (dc_X8_adopt 8 rfl) rfl rfl ?_
  obtain ⟨p4, e0, h⟩ := Option.bind_eq_some_iff.mp h
  refine r_aaldR (dc_X8_adopt 9 rfl) (kd := 4) rfl e0 ?_
  refine r_aload_n (dc_X8_adopt 10 rfl) rfl rfl ?_
  obtain ⟨p5, e0, h⟩ := Option.bind_eq_some_iff.mp h
  refine r_getR (dc_X8_adopt 11 rfl) fl_RX8_24 e0 ?_
  refine r_iload_n (dc_X8_adopt 12 rfl) rfl rfl ?_
  obtain ⟨p6, e0, h⟩ := Option.bind_eq_some_iff.mp h
  refine r_aaldR (dc_X8_adopt 13 rfl) (kd := 4) rfl e0 ?_
  refine r_iload_n (dc_X8_adopt 14 rfl) rfl rfl ?_
  refine r_iload_n (dc_X8_adopt 15 rfl) rfl rfl ?_
  refine r_aload_n (dc_X8_adopt 16 rfl) rfl rfl ?_
  obtain ⟨p7, e0, h⟩ := Option.bind_eq_some_iff.mp h
  refine r_getR (dc_X8_adopt 17 rfl) fl_RX8_18 e0 ?_
  obtain ⟨p8, e0, h⟩ := Option.bind_eq_some_iff.mp h
  refine r_getR (dc_X8_adopt 18 rfl) fl_RX8_153 e0 ?_
  refine r_iload_n (dc_X8_adopt 19 rfl) rfl rfl ?_
  obtain ⟨x9, e0, h⟩ := Option.bind_eq_some_iff.mp h
  refine r_iald (dc_X8_adopt 20 rfl) e0 ?_
  refine r_aload_n (dc_X8_adopt 21 rfl) rfl rfl ?_
  obtain ⟨x10, e0, h⟩ := Option.bind_eq_some_iff.mp h
  refine r_getI (dc_X8_adopt 22 rfl) fl_RX8_43 e0 ?_
  obtain ⟨s11, e0, h⟩ := Option.bind_eq_some_iff.mp h
  refine r_callV (dc_X8_adopt 23 rfl) mv_X6_adopt ml_RX8_156 (As := [.ref p6, .int xa1, .int xa2, .int x9, .int x10]) (t_X6_adopt (d := d - 1) hl (by omega) e0) (by omega) rfl (Nat.le_of_ble_eq_true rfl) ?_
  refine r_aload_n (dc_X8_adopt 24 rfl) rfl rfl ?_
  obtain ⟨p12, e0, h⟩ := Option.bind_eq_some_iff.mp h
  refine r_getR (dc_X8_adopt 25 rfl) fl_RX8_24 e0 ?_
  refine r_iload_n (dc_X8_adopt 26 rfl) rfl rfl ?_
  obtain ⟨p13, e0, h⟩ := Option.bind_eq_some_iff.mp h
  refine r_aaldR (dc_X8_adopt 27 rfl) (kd := 4) rfl e0 ?_
  obtain ⟨p14, e0, h⟩ := Option.bind_eq_some_iff.mp h
  refine r_getR (dc_X8_adopt 28 rfl) fl_RX8_113 e0 ?_
  obtain ⟨x15, e0, h⟩ := Option.bind_eq_some_iff.mp h
  refine r_callV (dc_X8_adopt 29 rfl) mv_X1_size ml_RX8_146 (As := []) (t_X1_size (d := d - 1) hl (by omega) e0) (by omega) rfl (Nat.le_of_ble_eq_true rfl) ?_
  cases h
  exact r_ireturn (dc_X8_adopt 30 rfl) rfl
theorem t_X8_setLink {G : Gx} {d : Nat} (hl : G.1.stackTraces = false) (hd : 1 ≤ d) {σ : Sto} {a0 : Nat} {xa1 : Int32} {xa2 : Int32} {xa3 : Int32} {r : Sto} (h : F_X8_setLink σ a0 xa1 xa2 xa3 = some r) : Mi G d m_X8_setLink 8 a0 [.int xa1, .int xa2, .int xa3] σ (.inl none) r := by
  rw [F_X8_setLink] at h
  obtain ⟨hg, h⟩ := chk_some h
  refine ⟨J.toMt (lo := [(0, .ref a0), (1, .int xa1), (2, .int xa2), (3, .int xa3)]) pn_RX8 rfl hl (Nat.le_of_ble_eq_true rfl) rfl ?_, hg⟩
  refine r_aload_n (dc_X8_setLink 0 rfl) rfl rfl ?_
  refine r_dup (dc_X8_setLink 1 rfl) rfl ?_
  obtain ⟨x1, e0, h⟩ := Option.bind_eq_some_iff.mp h
  refine r_getI (dc_X8_setLink 2 rfl) fl_RX8_43 e0 ?_
  refine r_iconst (dc_X8_setLink 3 rfl) kiconst_1 ?_
  refine r_iadd (dc_X8_setLink 4 rfl) ?_
  obtain ⟨s2, e0, h⟩ := Option.bind_eq_some_iff.mp h
  refine r_put (dc_X8_setLink 5 rfl) pl_RX8_43 rfl e0 ?_
  refine r_aload_n (dc_X8_setLink 6 rfl) rfl rfl ?_
  obtain ⟨p3, e0, h⟩ := Option.bind_eq_some_iff.mp h
  refine r_getR (dc_X8_setLink 7 rfl) fl_RX8_37 e0 ?_
  refine r_iload_n (dc_X8_setLink 8 rfl) rfl rfl ?_
  refine r_iload_n (dc_X8_setLink 9 rfl) rfl rfl ?_
  obtain ⟨x4, e0, h⟩ := Option.bind_eq_some_iff.mp h
  refine r_callSN (dc_X8_setLink 10 rfl) ms_X9_cell mn_RX8_75 (As := [.int xa1, .int xa2]) (t_X9_cell (d := d - 1) hl (by omega) e0) (by omega) rfl (Nat.le_of_ble_eq_true rfl) ?_
  refine r_iload_n (dc_X8_setLink 11 rfl) rfl rfl ?_
  obtain ⟨s5, e0, h⟩ := Option.bind_eq_some_iff.mp h
  refine r_zast (dc_X8_setLink 12 rfl) e0 ?_
  refine r_aload_n (dc_X8_setLink 13 rfl) rfl rfl ?_
  obtain ⟨p6, e0, h⟩ := Option.bind_eq_some_iff.mp h
  refine r_getR (dc_X8_setLink 14 rfl) fl_RX8_37 e0 ?_
  refine r_iload_n (dc_X8_setLink 15 rfl) rfl rfl ?_
  refine r_iload_n (dc_X8_setLink 16 rfl) rfl rfl ?_
  obtain ⟨x7, e0, h⟩ := Option.bind_eq_some_iff.mp h
  refine r_callSN (dc_X8_setLink 17 rfl) ms_X9_cell mn_RX8_75 (As := [.int xa2, .int xa1]) (t_X9_cell (d := d - 1) hl (by omega) e0) (by omega) rfl (Nat.le_of_ble_eq_true rfl) ?_
  refine r_iload_n (dc_X8_setLink 18 rfl) rfl rfl ?_
  obtain ⟨s8, e0, h⟩ := Option.bind_eq_some_iff.mp h
  refine r_zast (dc_X8_setLink 19 rfl) e0 ?_
  cases h
  exact r_vreturn (dc_X8_setLink 20 rfl) rfl
theorem l_X8_holders_L4 {G : Gx} {d : Nat} (hl : G.1.stackTraces = false) (hd : 1 ≤ d) {sL : Sto} {pL0 : Nat} {xL1 : Int32} {r : Int32} {k37 : Int32 → Option Int32}
    (hk37 : ∀ (xL2 : Int32), k37 xL2 = some r → J G d m_X8_holders 37 [(2, .int xL2)] [] sL (.inl (some (.int r))) sL)
  : ∀ (f : Nat) (xL2 : Int32) (xL3 : Int32), F_X8_holders_L4 sL pL0 xL1 f xL2 xL3 k37 = some r → J G d m_X8_holders 4 [(0, .ref pL0), (1, .int xL1), (2, .int xL2), (3, .int xL3)] [] sL (.inl (some (.int r))) sL := by
  intro f
  induction f with
  | zero => intro xL2 xL3 h; rw [F_X8_holders_L4] at h; cases h
  | succ f ih =>
    intro xL2 xL3 h
    rw [F_X8_holders_L4] at h
    refine r_iload_n (dc_X8_holders 4 rfl) rfl rfl ?_
    refine r_aload_n (dc_X8_holders 5 rfl) rfl rfl ?_
    obtain ⟨x1, e0, h⟩ := Option.bind_eq_some_iff.mp h
    refine r_getI (dc_X8_holders 6 rfl) fl_RX8_9 e0 ?_
    refine r_icmp_ge (dc_X8_holders 7 rfl) (tgt := 37) (by decide) (fun c0 => ?_) (fun c0 => ?_)
    · rw [if_pos c0] at h
      refine r_pick [2] (lo' := [(2, .int xL2)]) rfl ?_
      exact hk37 _ h
    · rw [if_neg c0] at h
      refine r_aload_n (dc_X8_holders 8 rfl) rfl rfl ?_
      obtain ⟨p2, e0, h⟩ := Option.bind_eq_some_iff.mp h
      refine r_getR (dc_X8_holders 9 rfl) fl_RX8_24 e0 ?_
      refine r_iload_n (dc_X8_holders 10 rfl) rfl rfl ?_
      obtain ⟨p3, e0, h⟩ := Option.bind_eq_some_iff.mp h
      refine r_aaldR (dc_X8_holders 11 rfl) (kd := 4) rfl e0 ?_
      obtain ⟨p4, e0, h⟩ := Option.bind_eq_some_iff.mp h
      refine r_getR (dc_X8_holders 12 rfl) fl_RX8_113 e0 ?_
      refine r_iload_n (dc_X8_holders 13 rfl) rfl rfl ?_
      obtain ⟨x5, e0, h⟩ := Option.bind_eq_some_iff.mp h
      refine r_callV (dc_X8_holders 14 rfl) mv_X1_holds ml_RX8_160 (As := [.int xL1]) (t_X1_holds (d := d - 1) hl (by omega) e0) (by omega) rfl (Nat.le_of_ble_eq_true rfl) ?_
      refine r_if_eq (dc_X8_holders 15 rfl) (tgt := 31) (by decide) (fun c0 => ?_) (fun c0 => ?_)
      · rw [if_pos c0] at h
        refine r_iinc (dc_X8_holders 17 rfl) rfl (kinc_1 _) (by decide) (lo' := [(3, .int (xL3 + (1 : Int32))), (0, .ref pL0), (1, .int xL1), (2, .int xL2)]) rfl ?_
        refine r_goto (dc_X8_holders 18 rfl) (tgt := 4) (by decide) ?_
        refine r_pick [1, 2, 3, 0] (lo' := [(0, .ref pL0), (1, .int xL1), (2, .int xL2), (3, .int (xL3 + (1 : Int32)))]) rfl ?_
        exact ih _ _ h
      · rw [if_neg c0] at h
        refine r_iinc (dc_X8_holders 16 rfl) rfl (kinc_1 _) (by decide) (lo' := [(2, .int (xL2 + (1 : Int32))), (0, .ref pL0), (1, .int xL1), (3, .int xL3)]) rfl ?_
        refine r_iinc (dc_X8_holders 17 rfl) rfl (kinc_1 _) (by decide) (lo' := [(3, .int (xL3 + (1 : Int32))), (2, .int (xL2 + (1 : Int32))), (0, .ref pL0), (1, .int xL1)]) rfl ?_
        refine r_goto (dc_X8_holders 18 rfl) (tgt := 4) (by decide) ?_
        refine r_pick [2, 3, 1, 0] (lo' := [(0, .ref pL0), (1, .int xL1), (2, .int (xL2 + (1 : Int32))), (3, .int (xL3 + (1 : Int32)))]) rfl ?_
        exact ih _ _ h
theorem t_X8_holders {G : Gx} {d : Nat} (hl : G.1.stackTraces = false) (hd : 1 ≤ d) {σ : Sto} {a0 : Nat} {xa1 : Int32} {r : Int32} (h : F_X8_holders σ a0 xa1 = some r) : Mi G d m_X8_holders 8 a0 [.int xa1] σ (.inl (some (.int r))) σ := by
  rw [F_X8_holders] at h
  obtain ⟨hg, h⟩ := chk_some h
  refine ⟨J.toMt (lo := [(0, .ref a0), (1, .int xa1)]) pn_RX8 rfl hl (Nat.le_of_ble_eq_true rfl) rfl ?_, hg⟩
  refine r_iconst (dc_X8_holders 0 rfl) kiconst_0 ?_
  refine r_istore_n (dc_X8_holders 1 rfl) rfl (by decide) (lo' := [(2, .int (0 : Int32)), (0, .ref a0), (1, .int xa1)]) rfl ?_
  refine r_iconst (dc_X8_holders 2 rfl) kiconst_0 ?_
  refine r_istore_n (dc_X8_holders 3 rfl) rfl (by decide) (lo' := [(3, .int (0 : Int32)), (2, .int (0 : Int32)), (0, .ref a0), (1, .int xa1)]) rfl ?_
  refine r_pick [2, 3, 1, 0] (lo' := [(0, .ref a0), (1, .int xa1), (2, .int (0 : Int32)), (3, .int (0 : Int32))]) rfl ?_
  refine l_X8_holders_L4 hl hd (hk37 := ?_) fu _ _ h
  · intro x6 h
    refine r_iload_n (dc_X8_holders 19 rfl) rfl rfl ?_
    cases h
    exact r_ireturn (dc_X8_holders 20 rfl) rfl
theorem l_X8_logsWith_L4 {G : Gx} {d : Nat} (hl : G.1.stackTraces = false) (hd : 1 ≤ d) {sL : Sto} {pL0 : Nat} {xL1 : Int32} {r : Int32} {k34 : Int32 → Option Int32}
    (hk34 : ∀ (xL2 : Int32), k34 xL2 = some r → J G d m_X8_logsWith 34 [(2, .int xL2)] [] sL (.inl (some (.int r))) sL)
  : ∀ (f : Nat) (xL2 : Int32) (xL3 : Int32), F_X8_logsWith_L4 sL pL0 xL1 f xL2 xL3 k34 = some r → J G d m_X8_logsWith 4 [(0, .ref pL0), (1, .int xL1), (2, .int xL2), (3, .int xL3)] [] sL (.inl (some (.int r))) sL := by
  intro f
  induction f with
  | zero => intro xL2 xL3 h; rw [F_X8_logsWith_L4] at h; cases h
  | succ f ih =>
    intro xL2 xL3 h
    rw [F_X8_logsWith_L4] at h
    refine r_iload_n (dc_X8_logsWith 4 rfl) rfl rfl ?_
    refine r_aload_n (dc_X8_logsWith 5 rfl) rfl rfl ?_
    obtain ⟨x1, e0, h⟩ := Option.bind_eq_some_iff.mp h
    refine r_getI (dc_X8_logsWith 6 rfl) fl_RX8_9 e0 ?_
    refine r_icmp_ge (dc_X8_logsWith 7 rfl) (tgt := 34) (by decide) (fun c0 => ?_) (fun c0 => ?_)
    · rw [if_pos c0] at h
      refine r_pick [2] (lo' := [(2, .int xL2)]) rfl ?_
      exact hk34 _ h
    · rw [if_neg c0] at h
      refine r_aload_n (dc_X8_logsWith 8 rfl) rfl rfl ?_
      obtain ⟨p2, e0, h⟩ := Option.bind_eq_some_iff.mp h
      refine r_getR (dc_X8_logsWith 9 rfl) fl_RX8_24 e0 ?_
      refine r_iload_n (dc_X8_logsWith 10 rfl) rfl rfl ?_
      obtain ⟨p3, e0, h⟩ := Option.bind_eq_some_iff.mp h
      refine r_aaldR (dc_X8_logsWith 11 rfl) (kd := 4) rfl e0 ?_
      refine r_iload_n (dc_X8_logsWith 12 rfl) rfl rfl ?_
      obtain ⟨x4, e0, h⟩ := Option.bind_eq_some_iff.mp h
      refine r_callV (dc_X8_logsWith 13 rfl) mv_X6_logHolds ml_RX8_164 (As := [.int xL1]) (t_X6_logHolds (d := d - 1) hl (by omega) e0) (by omega) rfl (Nat.le_of_ble_eq_true rfl) ?_
      refine r_if_eq (dc_X8_logsWith 14 rfl) (tgt := 28) (by decide) (fun c0 => ?_) (fun c0 => ?_)
      · rw [if_pos c0] at h
        refine r_iinc (dc_X8_logsWith 16 rfl) rfl (kinc_1 _) (by decide) (lo' := [(3, .int (xL3 + (1 : Int32))), (0, .ref pL0), (1, .int xL1), (2, .int xL2)]) rfl ?_
        refine r_goto (dc_X8_logsWith 17 rfl) (tgt := 4) (by decide) ?_
        refine r_pick [1, 2, 3, 0] (lo' := [(0, .ref pL0), (1, .int xL1), (2, .int xL2), (3, .int (xL3 + (1 : Int32)))]) rfl ?_
        exact ih _ _ h
      · rw [if_neg c0] at h
        refine r_iinc (dc_X8_logsWith 15 rfl) rfl (kinc_1 _) (by decide) (lo' := [(2, .int (xL2 + (1 : Int32))), (0, .ref pL0), (1, .int xL1), (3, .int xL3)]) rfl ?_
        refine r_iinc (dc_X8_logsWith 16 rfl) rfl (kinc_1 _) (by decide) (lo' := [(3, .int (xL3 + (1 : Int32))), (2, .int (xL2 + (1 : Int32))), (0, .ref pL0), (1, .int xL1)]) rfl ?_
        refine r_goto (dc_X8_logsWith 17 rfl) (tgt := 4) (by decide) ?_
        refine r_pick [2, 3, 1, 0] (lo' := [(0, .ref pL0), (1, .int xL1), (2, .int (xL2 + (1 : Int32))), (3, .int (xL3 + (1 : Int32)))]) rfl ?_
        exact ih _ _ h
theorem t_X8_logsWith {G : Gx} {d : Nat} (hl : G.1.stackTraces = false) (hd : 1 ≤ d) {σ : Sto} {a0 : Nat} {xa1 : Int32} {r : Int32} (h : F_X8_logsWith σ a0 xa1 = some r) : Mi G d m_X8_logsWith 8 a0 [.int xa1] σ (.inl (some (.int r))) σ := by
  rw [F_X8_logsWith] at h
  obtain ⟨hg, h⟩ := chk_some h
  refine ⟨J.toMt (lo := [(0, .ref a0), (1, .int xa1)]) pn_RX8 rfl hl (Nat.le_of_ble_eq_true rfl) rfl ?_, hg⟩
  refine r_iconst (dc_X8_logsWith 0 rfl) kiconst_0 ?_
  refine r_istore_n (dc_X8_logsWith 1 rfl) rfl (by decide) (lo' := [(2, .int (0 : Int32)), (0, .ref a0), (1, .int xa1)]) rfl ?_
  refine r_iconst (dc_X8_logsWith 2 rfl) kiconst_0 ?_
  refine r_istore_n (dc_X8_logsWith 3 rfl) rfl (by decide) (lo' := [(3, .int (0 : Int32)), (2, .int (0 : Int32)), (0, .ref a0), (1, .int xa1)]) rfl ?_
  refine r_pick [2, 3, 1, 0] (lo' := [(0, .ref a0), (1, .int xa1), (2, .int (0 : Int32)), (3, .int (0 : Int32))]) rfl ?_
  refine l_X8_logsWith_L4 hl hd (hk34 := ?_) fu _ _ h
  · intro x5 h
    refine r_iload_n (dc_X8_logsWith 18 rfl) rfl rfl ?_
    cases h
    exact r_ireturn (dc_X8_logsWith 19 rfl) rfl
theorem l_X8_wayOf_L24 {G : Gx} {d : Nat} (hl : G.1.stackTraces = false) (hd : 1 ≤ d) {sL : Sto} {pL0 : Nat} {xL2 : Int32} {xL3 : Int32} {r : Int32} {k95 : Int32 → Int32 → Option Int32}
    (hk95 : ∀ (xL4 : Int32) (xL5 : Int32), k95 xL4 xL5 = some r → J G d m_X8_wayOf 95 [(3, .int xL3), (4, .int xL4), (5, .int xL5)] [] sL (.inl (some (.int r))) sL)
  : ∀ (f : Nat) (xL4 : Int32) (xL5 : Int32), F_X8_wayOf_L24 sL pL0 xL2 xL3 f xL4 xL5 k95 = some r → J G d m_X8_wayOf 24 [(0, .ref pL0), (2, .int xL2), (3, .int xL3), (4, .int xL4), (5, .int xL5)] [] sL (.inl (some (.int r))) sL := by
  intro f
  induction f with
  | zero => intro xL4 xL5 h; rw [F_X8_wayOf_L24] at h; cases h
  | succ f ih =>
    intro xL4 xL5 h
    rw [F_X8_wayOf_L24] at h
    refine r_iload (dc_X8_wayOf 14 rfl) rfl ?_
    refine r_aload_n (dc_X8_wayOf 15 rfl) rfl rfl ?_
    obtain ⟨x5, e0, h⟩ := Option.bind_eq_some_iff.mp h
    refine r_getI (dc_X8_wayOf 16 rfl) fl_RX8_9 e0 ?_
    refine r_icmp_ge (dc_X8_wayOf 17 rfl) (tgt := 95) (by decide) (fun c0 => ?_) (fun c0 => ?_)
    · rw [if_pos c0] at h
      refine r_pick [2, 3, 4] (lo' := [(3, .int xL3), (4, .int xL4), (5, .int xL5)]) rfl ?_
      exact hk95 _ _ h
    · rw [if_neg c0] at h
      refine r_iload_n (dc_X8_wayOf 18 rfl) rfl rfl ?_
      refine r_iload (dc_X8_wayOf 19 rfl) rfl ?_
      refine r_iconst (dc_X8_wayOf 20 rfl) kiconst_1 ?_
      refine r_isub (dc_X8_wayOf 21 rfl) ?_
      refine r_icmp_eq (dc_X8_wayOf 22 rfl) (tgt := 95) (by decide) (fun c0 => ?_) (fun c0 => ?_)
      · rw [if_pos c0] at h
        refine r_pick [2, 3, 4] (lo' := [(3, .int xL3), (4, .int xL4), (5, .int xL5)]) rfl ?_
        exact hk95 _ _ h
      · rw [if_neg c0] at h
        refine r_aload_n (dc_X8_wayOf 23 rfl) rfl rfl ?_
        obtain ⟨p6, e0, h⟩ := Option.bind_eq_some_iff.mp h
        refine r_getR (dc_X8_wayOf 24 rfl) fl_RX8_24 e0 ?_
        refine r_iload (dc_X8_wayOf 25 rfl) rfl ?_
        obtain ⟨p7, e0, h⟩ := Option.bind_eq_some_iff.mp h
        refine r_aaldR (dc_X8_wayOf 26 rfl) (kd := 4) rfl e0 ?_
        obtain ⟨p8, e0, h⟩ := Option.bind_eq_some_iff.mp h
        refine r_getR (dc_X8_wayOf 27 rfl) fl_RX8_113 e0 ?_
        refine r_iload_n (dc_X8_wayOf 28 rfl) rfl rfl ?_
        obtain ⟨x9, e0, h⟩ := Option.bind_eq_some_iff.mp h
        refine r_callV (dc_X8_wayOf 29 rfl) mv_X1_holds ml_RX8_160 (As := [.int xL2]) (t_X1_holds (d := d - 1) hl (by omega) e0) (by omega) rfl (Nat.le_of_ble_eq_true rfl) ?_
        refine r_if_eq (dc_X8_wayOf 30 rfl) (tgt := 95) (by decide) (fun c0 => ?_) (fun c0 => ?_)
        · rw [if_pos c0] at h
          refine r_pick [2, 3, 4] (lo' := [(3, .int xL3), (4, .int xL4), (5, .int xL5)]) rfl ?_
          exact hk95 _ _ h
        · rw [if_neg c0] at h
          refine r_aload_n (dc_X8_wayOf 31 rfl) rfl rfl ?_
          obtain ⟨p10, e0, h⟩ := Option.bind_eq_some_iff.mp h
          refine r_getR (dc_X8_wayOf 32 rfl) fl_RX8_24 e0 ?_
          refine r_iload (dc_X8_wayOf 33 rfl) rfl ?_
          obtain ⟨p11, e0, h⟩ := Option.bind_eq_some_iff.mp h
          refine r_aaldR (dc_X8_wayOf 34 rfl) (kd := 4) rfl e0 ?_
          obtain ⟨p12, e0, h⟩ := Option.bind_eq_some_iff.mp h
          refine r_getR (dc_X8_wayOf 35 rfl) fl_RX8_167 e0 ?_
          refine r_iload_n (dc_X8_wayOf 36 rfl) rfl rfl ?_
          obtain ⟨x13, e0, h⟩ := Option.bind_eq_some_iff.mp h
          refine r_iald (dc_X8_wayOf 37 rfl) e0 ?_
          refine r_iload (dc_X8_wayOf 38 rfl) rfl ?_
          refine r_icmp_eq (dc_X8_wayOf 39 rfl) (tgt := 95) (by decide) (fun c0 => ?_) (fun c0 => ?_)
          · rw [if_pos c0] at h
            refine r_pick [2, 3, 4] (lo' := [(3, .int xL3), (4, .int xL4), (5, .int xL5)]) rfl ?_
            exact hk95 _ _ h
          · rw [if_neg c0] at h
            refine r_aload_n (dc_X8_wayOf 40 rfl) rfl rfl ?_
            obtain ⟨p14, e0, h⟩ := Option.bind_eq_some_iff.mp h
            refine r_getR (dc_X8_wayOf 41 rfl) fl_RX8_24 e0 ?_
            refine r_iload (dc_X8_wayOf 42 rfl) rfl ?_
            obtain ⟨p15, e0, h⟩ := Option.bind_eq_some_iff.mp h
            refine r_aaldR (dc_X8_wayOf 43 rfl) (kd := 4) rfl e0 ?_
            obtain ⟨p16, e0, h⟩ := Option.bind_eq_some_iff.mp h
            refine r_getR (dc_X8_wayOf 44 rfl) fl_RX8_167 e0 ?_
            refine r_iload_n (dc_X8_wayOf 45 rfl) rfl rfl ?_
            obtain ⟨x17, e0, h⟩ := Option.bind_eq_some_iff.mp h
            refine r_iald (dc_X8_wayOf 46 rfl) e0 ?_
            refine r_istore (dc_X8_wayOf 47 rfl) (by decide) (lo' := [(4, .int x17), (0, .ref pL0), (2, .int xL2), (3, .int xL3), (5, .int xL5)]) rfl ?_
            refine r_iinc (dc_X8_wayOf 48 rfl) rfl (kinc_1 _) (by decide) (lo' := [(5, .int (xL5 + (1 : Int32))), (4, .int x17), (0, .ref pL0), (2, .int xL2), (3, .int xL3)]) rfl ?_
            refine r_goto (dc_X8_wayOf 49 rfl) (tgt := 24) (by decide) ?_
            refine r_pick [2, 3, 4, 1, 0] (lo' := [(0, .ref pL0), (2, .int xL2), (3, .int xL3), (4, .int x17), (5, .int (xL5 + (1 : Int32)))]) rfl ?_
            exact ih _ _ h
theorem t_X8_wayOf {G : Gx} {d : Nat} (hl : G.1.stackTraces = false) (hd : 1 ≤ d) {σ : Sto} {a0 : Nat} {xa1 : Int32} {xa2 : Int32} {xa3 : Int32} {r : Int32} (h : F_X8_wayOf σ a0 xa1 xa2 xa3 = some r) : Mi G d m_X8_wayOf 8 a0 [.int xa1, .int xa2, .int xa3] σ (.inl (some (.int r))) σ := by
  rw [F_X8_wayOf] at h
  obtain ⟨hg, h⟩ := chk_some h
  refine ⟨J.toMt (lo := [(0, .ref a0), (1, .int xa1), (2, .int xa2), (3, .int xa3)]) pn_RX8 rfl hl (Nat.le_of_ble_eq_true rfl) rfl ?_, hg⟩
  refine r_aload_n (dc_X8_wayOf 0 rfl) rfl rfl ?_
  obtain ⟨p1, e0, h⟩ := Option.bind_eq_some_iff.mp h
  refine r_getR (dc_X8_wayOf 1 rfl) fl_RX8_24 e0 ?_
  refine r_iload_n (dc_X8_wayOf 2 rfl) rfl rfl ?_
  obtain ⟨p2, e0, h⟩ := Option.bind_eq_some_iff.mp h
  refine r_aaldR (dc_X8_wayOf 3 rfl) (kd := 4) rfl e0 ?_
  obtain ⟨p3, e0, h⟩ := Option.bind_eq_some_iff.mp h
  refine r_getR (dc_X8_wayOf 4 rfl) fl_RX8_113 e0 ?_
  refine r_iload_n (dc_X8_wayOf 5 rfl) rfl rfl ?_
  obtain ⟨x4, e0, h⟩ := Option.bind_eq_some_iff.mp h
  refine r_callV (dc_X8_wayOf 6 rfl) mv_X1_holds ml_RX8_160 (As := [.int xa2]) (t_X1_holds (d := d - 1) hl (by omega) e0) (by omega) rfl (Nat.le_of_ble_eq_true rfl) ?_
  refine r_if_ne (dc_X8_wayOf 7 rfl) (tgt := 18) (by decide) (fun c0 => ?_) (fun c0 => ?_)
  · rw [if_neg c0] at h
    refine r_iload_n (dc_X8_wayOf 10 rfl) rfl rfl ?_
    refine r_istore (dc_X8_wayOf 11 rfl) (by decide) (lo' := [(4, .int xa1), (0, .ref a0), (1, .int xa1), (2, .int xa2), (3, .int xa3)]) rfl ?_
    refine r_iconst (dc_X8_wayOf 12 rfl) kiconst_1 ?_
    refine r_istore (dc_X8_wayOf 13 rfl) (by decide) (lo' := [(5, .int (1 : Int32)), (4, .int xa1), (0, .ref a0), (1, .int xa1), (2, .int xa2), (3, .int xa3)]) rfl ?_
    refine r_pick [2, 4, 5, 1, 0] (lo' := [(0, .ref a0), (2, .int xa2), (3, .int xa3), (4, .int xa1), (5, .int (1 : Int32))]) rfl ?_
    refine l_X8_wayOf_L24 hl hd (hk95 := ?_) fu _ _ h
    · intro x18 x19 h
      refine r_iload_n (dc_X8_wayOf 50 rfl) rfl rfl ?_
      refine r_iconst (dc_X8_wayOf 51 rfl) kiconst_m1 ?_
      refine r_icmp_ne (dc_X8_wayOf 52 rfl) (tgt := 103) (by decide) (fun c0 => ?_) (fun c0 => ?_)
      · rw [if_neg c0] at h
        refine r_iload_n (dc_X8_wayOf 55 rfl) rfl rfl ?_
        refine r_iload (dc_X8_wayOf 56 rfl) rfl ?_
        refine r_iconst (dc_X8_wayOf 57 rfl) kiconst_1 ?_
        refine r_isub (dc_X8_wayOf 58 rfl) ?_
        refine r_icmp_ne (dc_X8_wayOf 59 rfl) (tgt := 116) (by decide) (fun c0 => ?_) (fun c0 => ?_)
        · rw [if_neg c0] at h
          refine r_iconst (dc_X8_wayOf 62 rfl) kiconst_m1 ?_
          cases h
          exact r_ireturn (dc_X8_wayOf 63 rfl) rfl
        · rw [if_pos c0] at h
          refine r_iload (dc_X8_wayOf 60 rfl) rfl ?_
          refine r_goto (dc_X8_wayOf 61 rfl) (tgt := 117) (by decide) ?_
          cases h
          exact r_ireturn (dc_X8_wayOf 63 rfl) rfl
      · rw [if_pos c0] at h
        refine r_iload (dc_X8_wayOf 53 rfl) rfl ?_
        cases h
        exact r_ireturn (dc_X8_wayOf 54 rfl) rfl
  · rw [if_pos c0] at h
    refine r_iconst (dc_X8_wayOf 8 rfl) kiconst_m1 ?_
    cases h
    exact r_ireturn (dc_X8_wayOf 9 rfl) rfl
