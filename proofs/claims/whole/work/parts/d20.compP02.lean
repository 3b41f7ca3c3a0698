theorem t_X2_highest {G : Gx} {d : Nat} (hl : G.1.stackTraces = false) (hd : 0 ≤ d) {σ : Sto} {a0 : Nat} {r : Int32} (h : F_X2_highest σ a0 = some r) : Mi G d m_X2_highest 2 a0 [] σ (.inl (some (.int r))) σ := by
  rw [F_X2_highest] at h
  obtain ⟨hg, h⟩ := chk_some h
  refine ⟨J.toMt (lo := [(0, .ref a0)]) pn_RX2 rfl hl (Nat.le_of_ble_eq_true rfl) rfl ?_, hg⟩
  refine r_iconst (dc_X2_highest 0 rfl) kiconst_m1 ?_
  refine r_istore_n (dc_X2_highest 1 rfl) rfl (by decide) (lo' := [(1, .int (-1 : Int32)), (0, .ref a0)]) rfl ?_
  refine r_iconst (dc_X2_highest 2 rfl) kiconst_0 ?_
  refine r_istore_n (dc_X2_highest 3 rfl) rfl (by decide) (lo' := [(2, .int (0 : Int32)), (1, .int (-1 : Int32)), (0, .ref a0)]) rfl ?_
  refine r_pick [2, 1, 0] (lo' := [(0, .ref a0), (1, .int (-1 : Int32)), (2, .int (0 : Int32))]) rfl ?_
  refine l_X2_highest_L4 hl hd (hk40 := ?_) fu _ _ h
  · intro x6 h
    refine r_iload_n (dc_X2_highest 24 rfl) rfl rfl ?_
    cases h
    exact r_ireturn (dc_X2_highest 25 rfl) rfl
theorem t_X3_init {G : Gx} {d : Nat} (hl : G.1.stackTraces = false) (hd : 1 ≤ d) {σ : Sto} {a0 : Nat} {pa1 : Nat} {r : Sto} (h : F_X3_init σ a0 pa1 = some r) : Mt G d m_X3_init [Value.ref a0, .ref pa1] σ (.inl none) r := by
  rw [F_X3_init] at h
  refine J.toMt (lo := [(0, .ref a0), (1, .ref pa1)]) pn_RX3 rfl hl (Nat.le_of_ble_eq_true rfl) rfl ?_
  refine r_aload_n (dc_X3_init 0 rfl) rfl rfl ?_
  refine r_objInit (dc_X3_init 1 rfl) ml_RX3_3 w_obj1 w_obj2 (by omega) (Nat.le_of_ble_eq_true rfl) ?_
  refine r_aload_n (dc_X3_init 2 rfl) rfl rfl ?_
  refine r_bipush (dc_X3_init 3 rfl) kbipush_120 ?_
  obtain ⟨p2, s1, ev, es, h⟩ := nw_some h
  refine r_newI (dc_X3_init 4 rfl) ac_int (by decide) (by decide +kernel) ?_
  rw [← ev, ← es]
  obtain ⟨s3, e0, h⟩ := Option.bind_eq_some_iff.mp h
  refine r_putX (dc_X3_init 5 rfl) pl_RX3_9 (Or.inr ⟨rfl, fun q hq => by cases hq; rfl⟩) rfl e0 ?_
  refine r_aload_n (dc_X3_init 6 rfl) rfl rfl ?_
  refine r_bipush (dc_X3_init 7 rfl) kbipush_25 ?_
  obtain ⟨p5, s4, ev, es, h⟩ := nw_some h
  refine r_newI (dc_X3_init 8 rfl) ac_int (by decide) (by decide +kernel) ?_
  rw [← ev, ← es]
  obtain ⟨s6, e0, h⟩ := Option.bind_eq_some_iff.mp h
  refine r_putX (dc_X3_init 9 rfl) pl_RX3_15 (Or.inr ⟨rfl, fun q hq => by cases hq; rfl⟩) rfl e0 ?_
  refine r_aload_n (dc_X3_init 10 rfl) rfl rfl ?_
  refine r_aload_n (dc_X3_init 11 rfl) rfl rfl ?_
  obtain ⟨s7, e0, h⟩ := Option.bind_eq_some_iff.mp h
  refine r_putX (dc_X3_init 12 rfl) pl_RX3_18 (Or.inr ⟨rfl, fun q hq => by cases hq; rfl⟩) rfl e0 ?_
  cases h
  exact r_vreturn (dc_X3_init 13 rfl) rfl
theorem t_X3_copyOf {G : Gx} {d : Nat} (hl : G.1.stackTraces = false) (hd : 2 ≤ d) {σ : Sto} {a0 : Nat} {pa1 : Nat} {r : Sto} (h : F_X3_copyOf σ a0 pa1 = some r) : Mi G d m_X3_copyOf 3 a0 [.ref pa1] σ (.inl none) r := by
  rw [F_X3_copyOf] at h
  obtain ⟨hg, h⟩ := chk_some h
  refine ⟨J.toMt (lo := [(0, .ref a0), (1, .ref pa1)]) pn_RX3 rfl hl (Nat.le_of_ble_eq_true rfl) rfl ?_, hg⟩
  refine r_aload_n (dc_X3_copyOf 0 rfl) rfl rfl ?_
  refine r_aload_n (dc_X3_copyOf 1 rfl) rfl rfl ?_
  obtain ⟨x1, e0, h⟩ := Option.bind_eq_some_iff.mp h
  refine r_getI (dc_X3_copyOf 2 rfl) fl_RX3_22 e0 ?_
  obtain ⟨s2, e0, h⟩ := Option.bind_eq_some_iff.mp h
  refine r_put (dc_X3_copyOf 3 rfl) pl_RX3_22 rfl e0 ?_
  refine r_aload_n (dc_X3_copyOf 4 rfl) rfl rfl ?_
  refine r_aload_n (dc_X3_copyOf 5 rfl) rfl rfl ?_
  obtain ⟨x3, e0, h⟩ := Option.bind_eq_some_iff.mp h
  refine r_getI (dc_X3_copyOf 6 rfl) fl_RX3_26 e0 ?_
  obtain ⟨s4, e0, h⟩ := Option.bind_eq_some_iff.mp h
  refine r_put (dc_X3_copyOf 7 rfl) pl_RX3_26 rfl e0 ?_
  refine r_aload_n (dc_X3_copyOf 8 rfl) rfl rfl ?_
  refine r_aload_n (dc_X3_copyOf 9 rfl) rfl rfl ?_
  obtain ⟨x5, e0, h⟩ := Option.bind_eq_some_iff.mp h
  refine r_getI (dc_X3_copyOf 10 rfl) fl_RX3_29 e0 ?_
  obtain ⟨s6, e0, h⟩ := Option.bind_eq_some_iff.mp h
  refine r_put (dc_X3_copyOf 11 rfl) pl_RX3_29 rfl e0 ?_
  refine r_aload_n (dc_X3_copyOf 12 rfl) rfl rfl ?_
  refine r_aload_n (dc_X3_copyOf 13 rfl) rfl rfl ?_
  obtain ⟨x7, e0, h⟩ := Option.bind_eq_some_iff.mp h
  refine r_getI (dc_X3_copyOf 14 rfl) fl_RX3_32 e0 ?_
  obtain ⟨s8, e0, h⟩ := Option.bind_eq_some_iff.mp h
  refine r_put (dc_X3_copyOf 15 rfl) pl_RX3_32 rfl e0 ?_
  refine r_aload_n (dc_X3_copyOf 16 rfl) rfl rfl ?_
  obtain ⟨p9, e0, h⟩ := Option.bind_eq_some_iff.mp h
  refine r_getR (dc_X3_copyOf 17 rfl) fl_RX3_9 e0 ?_
  refine r_iconst (dc_X3_copyOf 18 rfl) kiconst_0 ?_
  refine r_aload_n (dc_X3_copyOf 19 rfl) rfl rfl ?_
  obtain ⟨p10, e0, h⟩ := Option.bind_eq_some_iff.mp h
  refine r_getR (dc_X3_copyOf 20 rfl) fl_RX3_9 e0 ?_
  refine r_iconst (dc_X3_copyOf 21 rfl) kiconst_0 ?_
  refine r_aload_n (dc_X3_copyOf 22 rfl) rfl rfl ?_
  obtain ⟨x11, e0, h⟩ := Option.bind_eq_some_iff.mp h
  refine r_getI (dc_X3_copyOf 23 rfl) fl_RX3_32 e0 ?_
  obtain ⟨s12, e0, h⟩ := Option.bind_eq_some_iff.mp h
  refine r_acp (dc_X3_copyOf 24 rfl) ml_RX3_35 w_acp1 w_acp2 w_acp3 (by omega) (Nat.le_of_ble_eq_true rfl) e0 ?_
  refine r_aload_n (dc_X3_copyOf 25 rfl) rfl rfl ?_
  obtain ⟨p13, e0, h⟩ := Option.bind_eq_some_iff.mp h
  refine r_getR (dc_X3_copyOf 26 rfl) fl_RX3_18 e0 ?_
  refine r_aload_n (dc_X3_copyOf 27 rfl) rfl rfl ?_
  obtain ⟨p14, e0, h⟩ := Option.bind_eq_some_iff.mp h
  refine r_getR (dc_X3_copyOf 28 rfl) fl_RX3_18 e0 ?_
  obtain ⟨s15, e0, h⟩ := Option.bind_eq_some_iff.mp h
  refine r_callV (dc_X3_copyOf 29 rfl) mv_X1_copyOf ml_RX3_41 (As := [.ref p14]) (t_X1_copyOf (d := d - 1) hl (by omega) e0) (by omega) rfl (Nat.le_of_ble_eq_true rfl) ?_
  refine r_aload_n (dc_X3_copyOf 30 rfl) rfl rfl ?_
  obtain ⟨p16, e0, h⟩ := Option.bind_eq_some_iff.mp h
  refine r_getR (dc_X3_copyOf 31 rfl) fl_RX3_15 e0 ?_
  refine r_iconst (dc_X3_copyOf 32 rfl) kiconst_0 ?_
  refine r_aload_n (dc_X3_copyOf 33 rfl) rfl rfl ?_
  obtain ⟨p17, e0, h⟩ := Option.bind_eq_some_iff.mp h
  refine r_getR (dc_X3_copyOf 34 rfl) fl_RX3_15 e0 ?_
  refine r_iconst (dc_X3_copyOf 35 rfl) kiconst_0 ?_
  refine r_bipush (dc_X3_copyOf 36 rfl) kbipush_25 ?_
  obtain ⟨s18, e0, h⟩ := Option.bind_eq_some_iff.mp h
  refine r_acp (dc_X3_copyOf 37 rfl) ml_RX3_35 w_acp1 w_acp2 w_acp3 (by omega) (Nat.le_of_ble_eq_true rfl) e0 ?_
  cases h
  exact r_vreturn (dc_X3_copyOf 38 rfl) rfl
theorem t_X6_isKnown {G : Gx} {d : Nat} (hl : G.1.stackTraces = false) (hd : 0 ≤ d) {σ : Sto} {a0 : Nat} {pa1 : Nat} {xa2 : Int32} {xa3 : Int32} {r : Int32} (h : F_X6_isKnown σ a0 pa1 xa2 xa3 = some r) : Mi G d m_X6_isKnown 6 a0 [.ref pa1, .int xa2, .int xa3] σ (.inl (some (.int r))) σ := by
  rw [F_X6_isKnown] at h
  obtain ⟨hg, h⟩ := chk_some h
  refine ⟨J.toMt (lo := [(0, .ref a0), (1, .ref pa1), (2, .int xa2), (3, .int xa3)]) pn_RX6 rfl hl (Nat.le_of_ble_eq_true rfl) rfl ?_, hg⟩
  refine r_aload_n (dc_X6_isKnown 0 rfl) rfl rfl ?_
  obtain ⟨p1, e0, h⟩ := Option.bind_eq_some_iff.mp h
  refine r_getR (dc_X6_isKnown 1 rfl) fl_RX6_25 e0 ?_
  refine r_iload_n (dc_X6_isKnown 2 rfl) rfl rfl ?_
  refine r_iconst (dc_X6_isKnown 3 rfl) kiconst_5 ?_
  refine r_imul (dc_X6_isKnown 4 rfl) ?_
  refine r_aload_n (dc_X6_isKnown 5 rfl) rfl rfl ?_
  obtain ⟨p2, e0, h⟩ := Option.bind_eq_some_iff.mp h
  refine r_getR (dc_X6_isKnown 6 rfl) fl_RX6_55 e0 ?_
  refine r_iload_n (dc_X6_isKnown 7 rfl) rfl rfl ?_
  obtain ⟨x3, e0, h⟩ := Option.bind_eq_some_iff.mp h
  refine r_iald (dc_X6_isKnown 8 rfl) e0 ?_
  refine r_iadd (dc_X6_isKnown 9 rfl) ?_
  obtain ⟨x4, e0, h⟩ := Option.bind_eq_some_iff.mp h
  refine r_iald (dc_X6_isKnown 10 rfl) e0 ?_
  refine r_aload_n (dc_X6_isKnown 11 rfl) rfl rfl ?_
  obtain ⟨p5, e0, h⟩ := Option.bind_eq_some_iff.mp h
  refine r_getR (dc_X6_isKnown 12 rfl) fl_RX6_60 e0 ?_
  refine r_iload_n (dc_X6_isKnown 13 rfl) rfl rfl ?_
  obtain ⟨x6, e0, h⟩ := Option.bind_eq_some_iff.mp h
  refine r_iald (dc_X6_isKnown 14 rfl) e0 ?_
  refine r_icmp_lt (dc_X6_isKnown 15 rfl) (tgt := 28) (by decide) (fun c0 => ?_) (fun c0 => ?_)
  · rw [if_pos c0] at h
    refine r_iconst (dc_X6_isKnown 18 rfl) kiconst_0 ?_
    cases h
    exact r_zreturn (dc_X6_isKnown 19 rfl) rfl (Or.inl rfl)
  · rw [if_neg c0] at h
    refine r_iconst (dc_X6_isKnown 16 rfl) kiconst_1 ?_
    refine r_goto (dc_X6_isKnown 17 rfl) (tgt := 29) (by decide) ?_
    cases h
    exact r_zreturn (dc_X6_isKnown 19 rfl) rfl (Or.inr rfl)
theorem l_X3_compose_L32 {G : Gx} {d : Nat} (hl : G.1.stackTraces = false) (hd : 2 ≤ d) {pL0 : Nat} {pL1 : Nat} {pL2 : Nat} {xL4 : Int32} {r : Sto} {k104 : Sto → Option Sto}
    (hk104 : ∀ (sL : Sto), k104 sL = some r → J G d m_X3_compose 104 [(0, .ref pL0), (1, .ref pL1)] [] sL (.inl none) r)
  : ∀ (f : Nat) (xL6 : Int32) (sL : Sto), F_X3_compose_L32 pL0 pL1 pL2 xL4 f xL6 sL k104 = some r → J G d m_X3_compose 32 [(0, .ref pL0), (1, .ref pL1), (2, .ref pL2), (4, .int xL4), (6, .int xL6)] [] sL (.inl none) r := by
  intro f
  induction f with
  | zero => intro xL6 sL h; rw [F_X3_compose_L32] at h; cases h
  | succ f ih =>
    intro xL6 sL h
    rw [F_X3_compose_L32] at h
    refine r_iload (dc_X3_compose 17 rfl) rfl ?_
    refine r_aload_n (dc_X3_compose 18 rfl) rfl rfl ?_
    obtain ⟨x7, e0, h⟩ := Option.bind_eq_some_iff.mp h
    refine r_getI (dc_X3_compose 19 rfl) fl_RX3_50 e0 ?_
    refine r_icmp_ge (dc_X3_compose 20 rfl) (tgt := 104) (by decide) (fun c0 => ?_) (fun c0 => ?_)
    · rw [if_pos c0] at h
      refine r_pick [0, 1] (lo' := [(0, .ref pL0), (1, .ref pL1)]) rfl ?_
      exact hk104 _ h
    · rw [if_neg c0] at h
      refine r_aload_n (dc_X3_compose 21 rfl) rfl rfl ?_
      refine r_aload_n (dc_X3_compose 22 rfl) rfl rfl ?_
      refine r_iload (dc_X3_compose 23 rfl) rfl ?_
      refine r_aload_n (dc_X3_compose 24 rfl) rfl rfl ?_
      obtain ⟨p8, e0, h⟩ := Option.bind_eq_some_iff.mp h
      refine r_getR (dc_X3_compose 25 rfl) fl_RX3_55 e0 ?_
      refine r_iload (dc_X3_compose 26 rfl) rfl ?_
      obtain ⟨x9, e0, h⟩ := Option.bind_eq_some_iff.mp h
      refine r_iald (dc_X3_compose 27 rfl) e0 ?_
      obtain ⟨x10, e0, h⟩ := Option.bind_eq_some_iff.mp h
      refine r_callV (dc_X3_compose 28 rfl) mv_X6_isKnown ml_RX3_58 (As := [.ref pL2, .int xL4, .int x9]) (t_X6_isKnown (d := d - 1) hl (by omega) e0) (by omega) rfl (Nat.le_of_ble_eq_true rfl) ?_
      refine r_if_ne (dc_X3_compose 29 rfl) (tgt := 98) (by decide) (fun c0 => ?_) (fun c0 => ?_)
      · rw [if_neg c0] at h
        refine r_iinc (dc_X3_compose 52 rfl) rfl (kinc_1 _) (by decide) (lo' := [(6, .int (xL6 + (1 : Int32))), (0, .ref pL0), (1, .ref pL1), (2, .ref pL2), (4, .int xL4)]) rfl ?_
        refine r_goto (dc_X3_compose 53 rfl) (tgt := 32) (by decide) ?_
        refine r_pick [1, 2, 3, 4, 0] (lo' := [(0, .ref pL0), (1, .ref pL1), (2, .ref pL2), (4, .int xL4), (6, .int (xL6 + (1 : Int32)))]) rfl ?_
        exact ih _ _ h
      · rw [if_pos c0] at h
        refine r_aload_n (dc_X3_compose 30 rfl) rfl rfl ?_
        obtain ⟨p11, e0, h⟩ := Option.bind_eq_some_iff.mp h
        refine r_getR (dc_X3_compose 31 rfl) fl_RX3_9 e0 ?_
        refine r_aload_n (dc_X3_compose 32 rfl) rfl rfl ?_
        obtain ⟨x12, e0, h⟩ := Option.bind_eq_some_iff.mp h
        refine r_getI (dc_X3_compose 33 rfl) fl_RX3_32 e0 ?_
        refine r_aload_n (dc_X3_compose 34 rfl) rfl rfl ?_
        obtain ⟨p13, e0, h⟩ := Option.bind_eq_some_iff.mp h
        refine r_getR (dc_X3_compose 35 rfl) fl_RX3_55 e0 ?_
        refine r_iload (dc_X3_compose 36 rfl) rfl ?_
        obtain ⟨x14, e0, h⟩ := Option.bind_eq_some_iff.mp h
        refine r_iald (dc_X3_compose 37 rfl) e0 ?_
        obtain ⟨s15, e0, h⟩ := Option.bind_eq_some_iff.mp h
        refine r_iast (dc_X3_compose 38 rfl) e0 ?_
        refine r_aload_n (dc_X3_compose 39 rfl) rfl rfl ?_
        refine r_dup (dc_X3_compose 40 rfl) rfl ?_
        obtain ⟨x16, e0, h⟩ := Option.bind_eq_some_iff.mp h
        refine r_getI (dc_X3_compose 41 rfl) fl_RX3_32 e0 ?_
        refine r_iconst (dc_X3_compose 42 rfl) kiconst_1 ?_
        refine r_iadd (dc_X3_compose 43 rfl) ?_
        obtain ⟨s17, e0, h⟩ := Option.bind_eq_some_iff.mp h
        refine r_put (dc_X3_compose 44 rfl) pl_RX3_32 rfl e0 ?_
        refine r_aload_n (dc_X3_compose 45 rfl) rfl rfl ?_
        obtain ⟨p18, e0, h⟩ := Option.bind_eq_some_iff.mp h
        refine r_getR (dc_X3_compose 46 rfl) fl_RX3_18 e0 ?_
        refine r_aload_n (dc_X3_compose 47 rfl) rfl rfl ?_
        obtain ⟨p19, e0, h⟩ := Option.bind_eq_some_iff.mp h
        refine r_getR (dc_X3_compose 48 rfl) fl_RX3_55 e0 ?_
        refine r_iload (dc_X3_compose 49 rfl) rfl ?_
        obtain ⟨x20, e0, h⟩ := Option.bind_eq_some_iff.mp h
        refine r_iald (dc_X3_compose 50 rfl) e0 ?_
        obtain ⟨s21, e0, h⟩ := Option.bind_eq_some_iff.mp h
        refine r_callV (dc_X3_compose 51 rfl) mv_X1_insert ml_RX3_62 (As := [.int x20]) (t_X1_insert (d := d - 1) hl (by omega) e0) (by omega) rfl (Nat.le_of_ble_eq_true rfl) ?_
        refine r_iinc (dc_X3_compose 52 rfl) rfl (kinc_1 _) (by decide) (lo' := [(6, .int (xL6 + (1 : Int32))), (0, .ref pL0), (1, .ref pL1), (2, .ref pL2), (4, .int xL4)]) rfl ?_
        refine r_goto (dc_X3_compose 53 rfl) (tgt := 32) (by decide) ?_
        refine r_pick [1, 2, 3, 4, 0] (lo' := [(0, .ref pL0), (1, .ref pL1), (2, .ref pL2), (4, .int xL4), (6, .int (xL6 + (1 : Int32)))]) rfl ?_
        exact ih _ _ h
theorem t_X3_compose {G : Gx} {d : Nat} (hl : G.1.stackTraces = false) (hd : 2 ≤ d) {σ : Sto} {a0 : Nat} {pa1 : Nat} {pa2 : Nat} {xa3 : Int32} {xa4 : Int32} {xa5 : Int32} {r : Sto} (h : F_X3_compose σ a0 pa1 pa2 xa3 xa4 xa5 = some r) : Mi G d m_X3_compose 3 a0 [.ref pa1, .ref pa2, .int xa3, .int xa4, .int xa5] σ (.inl none) r := by
  rw [F_X3_compose] at h
  obtain ⟨hg, h⟩ := chk_some h
  refine ⟨J.toMt (lo := [(0, .ref a0), (1, .ref pa1), (2, .ref pa2), (3, .int xa3), (4, .int xa4), (5, .int xa5)]) pn_RX3 rfl hl (Nat.le_of_ble_eq_true rfl) rfl ?_, hg⟩
  refine r_aload_n (dc_X3_compose 0 rfl) rfl rfl ?_
  refine r_iload_n (dc_X3_compose 1 rfl) rfl rfl ?_
  obtain ⟨s1, e0, h⟩ := Option.bind_eq_some_iff.mp h
  refine r_put (dc_X3_compose 2 rfl) pl_RX3_22 rfl e0 ?_
  refine r_aload_n (dc_X3_compose 3 rfl) rfl rfl ?_
  refine r_iload (dc_X3_compose 4 rfl) rfl ?_
  obtain ⟨s2, e0, h⟩ := Option.bind_eq_some_iff.mp h
  refine r_put (dc_X3_compose 5 rfl) pl_RX3_26 rfl e0 ?_
  refine r_aload_n (dc_X3_compose 6 rfl) rfl rfl ?_
  refine r_iload (dc_X3_compose 7 rfl) rfl ?_
  obtain ⟨s3, e0, h⟩ := Option.bind_eq_some_iff.mp h
  refine r_put (dc_X3_compose 8 rfl) pl_RX3_29 rfl e0 ?_
  refine r_aload_n (dc_X3_compose 9 rfl) rfl rfl ?_
  refine r_iconst (dc_X3_compose 10 rfl) kiconst_0 ?_
  obtain ⟨s4, e0, h⟩ := Option.bind_eq_some_iff.mp h
  refine r_put (dc_X3_compose 11 rfl) pl_RX3_32 rfl e0 ?_
  refine r_aload_n (dc_X3_compose 12 rfl) rfl rfl ?_
  obtain ⟨p5, e0, h⟩ := Option.bind_eq_some_iff.mp h
  refine r_getR (dc_X3_compose 13 rfl) fl_RX3_18 e0 ?_
  obtain ⟨s6, e0, h⟩ := Option.bind_eq_some_iff.mp h
  refine r_callV (dc_X3_compose 14 rfl) mv_X1_clear ml_RX3_47 (As := []) (t_X1_clear (d := d - 1) hl (by omega) e0) (by omega) rfl (Nat.le_of_ble_eq_true rfl) ?_
  refine r_iconst (dc_X3_compose 15 rfl) kiconst_0 ?_
  refine r_istore (dc_X3_compose 16 rfl) (by decide) (lo' := [(6, .int (0 : Int32)), (0, .ref a0), (1, .ref pa1), (2, .ref pa2), (3, .int xa3), (4, .int xa4), (5, .int xa5)]) rfl ?_
  refine r_pick [1, 2, 3, 5, 0] (lo' := [(0, .ref a0), (1, .ref pa1), (2, .ref pa2), (4, .int xa4), (6, .int (0 : Int32))]) rfl ?_
  refine l_X3_compose_L32 hl hd (hk104 := ?_) fu _ _ h
  · intro s22 h
    refine r_aload_n (dc_X3_compose 54 rfl) rfl rfl ?_
    obtain ⟨p23, e0, h⟩ := Option.bind_eq_some_iff.mp h
    refine r_getR (dc_X3_compose 55 rfl) fl_RX3_66 e0 ?_
    refine r_iconst (dc_X3_compose 56 rfl) kiconst_0 ?_
    refine r_aload_n (dc_X3_compose 57 rfl) rfl rfl ?_
    obtain ⟨p24, e0, h⟩ := Option.bind_eq_some_iff.mp h
    refine r_getR (dc_X3_compose 58 rfl) fl_RX3_15 e0 ?_
    refine r_iconst (dc_X3_compose 59 rfl) kiconst_0 ?_
    refine r_bipush (dc_X3_compose 60 rfl) kbipush_25 ?_
    obtain ⟨s25, e0, h⟩ := Option.bind_eq_some_iff.mp h
    refine r_acp (dc_X3_compose 61 rfl) ml_RX3_35 w_acp1 w_acp2 w_acp3 (by omega) (Nat.le_of_ble_eq_true rfl) e0 ?_
    cases h
    exact r_vreturn (dc_X3_compose 62 rfl) rfl
theorem t_X4_init {G : Gx} {d : Nat} (hl : G.1.stackTraces = false) (hd : 1 ≤ d) {σ : Sto} {a0 : Nat} {r : Sto} (h : F_X4_init σ a0 = some r) : Mt G d m_X4_init [Value.ref a0] σ (.inl none) r := by
  rw [F_X4_init] at h
  refine J.toMt (lo := [(0, .ref a0)]) pn_RX4 rfl hl (Nat.le_of_ble_eq_true rfl) rfl ?_
  refine r_aload_n (dc_X4_init 0 rfl) rfl rfl ?_
  refine r_objInit (dc_X4_init 1 rfl) ml_RX4_3 w_obj1 w_obj2 (by omega) (Nat.le_of_ble_eq_true rfl) ?_
  refine r_aload_n (dc_X4_init 2 rfl) rfl rfl ?_
  refine r_bipush (dc_X4_init 3 rfl) kbipush_12 ?_
  obtain ⟨p2, s1, ev, es, h⟩ := nw_some h
  refine r_newR (dc_X4_init 4 rfl) (kd := 6) rfl cl_RX4_9 (by decide) (by decide) (by decide +kernel) ?_
  rw [← ev, ← es]
  obtain ⟨s3, e0, h⟩ := Option.bind_eq_some_iff.mp h
  refine r_putX (dc_X4_init 5 rfl) pl_RX4_11 (Or.inr ⟨rfl, fun q hq => by cases hq; rfl⟩) rfl e0 ?_
  cases h
  exact r_vreturn (dc_X4_init 6 rfl) rfl
theorem t_X4_at {G : Gx} {d : Nat} (hl : G.1.stackTraces = false) (hd : 2 ≤ d) {σ : Sto} {a0 : Nat} {xa1 : Int32} {r : (Nat × Sto)} (h : F_X4_at σ a0 xa1 = some r) : Mi G d m_X4_at 4 a0 [.int xa1] σ (.inl (some (.ref r.1))) r.2 := by
  rw [F_X4_at] at h
  obtain ⟨hg, h⟩ := chk_some h
  refine ⟨J.toMt (lo := [(0, .ref a0), (1, .int xa1)]) pn_RX4 rfl hl (Nat.le_of_ble_eq_true rfl) rfl ?_, hg⟩
  refine r_aload_n (dc_X4_at 0 rfl) rfl rfl ?_
  obtain ⟨p1, e0, h⟩ := Option.bind_eq_some_iff.mp h
  refine r_getR (dc_X4_at 1 rfl) fl_RX4_11 e0 ?_
  refine r_iload_n (dc_X4_at 2 rfl) rfl rfl ?_
  obtain ⟨p2, e0, h⟩ := Option.bind_eq_some_iff.mp h
  refine r_aald (dc_X4_at 3 rfl) (kd := 6) rfl e0 ?_
  cases p2 with
  | none =>
    simp only [oe] at h
    refine r_astore_nN (dc_X4_at 4 rfl) rfl (by decide) (lo' := [(2, .null), (0, .ref a0), (1, .int xa1)]) rfl ?_
    refine r_aload_nN (dc_X4_at 5 rfl) rfl rfl ?_
    refine r_ifnonnullN (dc_X4_at 6 rfl) ?_
    obtain ⟨p5, s4, ev, es, h⟩ := nw_some h
    refine r_new (dc_X4_at 7 rfl) nl_RX4_9 ?_
    rw [← ev, ← es]
    refine r_dup (dc_X4_at 8 rfl) rfl ?_
    obtain ⟨p7, s6, ev, es, h⟩ := nw_some h
    refine r_new (dc_X4_at 9 rfl) nl_RX4_33 ?_
    rw [← ev, ← es]
    refine r_dup (dc_X4_at 10 rfl) rfl ?_
    obtain ⟨u0, e0, h⟩ := Option.bind_eq_some_iff.mp h
    refine r_callIN (dc_X4_at 11 rfl) mi_X1_init mn_RX4_35 (As := []) (t_X1_init (d := d - 1) hl (by omega) e0) (by omega) rfl (Nat.le_of_ble_eq_true rfl) ?_
    obtain ⟨s8, e0, h⟩ := Option.bind_eq_some_iff.mp h
    refine r_callI (dc_X4_at 12 rfl) mi_X3_init ml_RX4_36 (As := [.ref p7]) (t_X3_init (d := d - 1) hl (by omega) e0) (by omega) rfl (Nat.le_of_ble_eq_true rfl) ?_
    refine r_astore_n (dc_X4_at 13 rfl) rfl (by decide) (lo' := [(2, .ref p5), (0, .ref a0), (1, .int xa1)]) rfl ?_
    refine r_aload_n (dc_X4_at 14 rfl) rfl rfl ?_
    obtain ⟨p9, e0, h⟩ := Option.bind_eq_some_iff.mp h
    refine r_getR (dc_X4_at 15 rfl) fl_RX4_11 e0 ?_
    refine r_iload_n (dc_X4_at 16 rfl) rfl rfl ?_
    refine r_aload_n (dc_X4_at 17 rfl) rfl rfl ?_
    obtain ⟨s10, e0, h⟩ := Option.bind_eq_some_iff.mp h
    refine r_aast (dc_X4_at 18 rfl) (kd := 6) rfl rfl e0 ?_
    refine r_aload_n (dc_X4_at 19 rfl) rfl rfl ?_
    cases h
    exact r_areturn (dc_X4_at 20 rfl) rfl
  | some p3 =>
    simp only [oe] at h
    refine r_astore_n (dc_X4_at 4 rfl) rfl (by decide) (lo' := [(2, .ref p3), (0, .ref a0), (1, .int xa1)]) rfl ?_
    refine r_aload_n (dc_X4_at 5 rfl) rfl rfl ?_
    refine r_ifnonnull (dc_X4_at 6 rfl) (tgt := 33) (by decide) ?_
    refine r_aload_n (dc_X4_at 19 rfl) rfl rfl ?_
    cases h
    exact r_areturn (dc_X4_at 20 rfl) rfl
theorem t_X4_append {G : Gx} {d : Nat} (hl : G.1.stackTraces = false) (hd : 3 ≤ d) {σ : Sto} {a0 : Nat} {r : (Nat × Sto)} (h : F_X4_append σ a0 = some r) : Mi G d m_X4_append 4 a0 [] σ (.inl (some (.ref r.1))) r.2 := by
  rw [F_X4_append] at h
  obtain ⟨hg, h⟩ := chk_some h
  refine ⟨J.toMt (lo := [(0, .ref a0)]) pn_RX4 rfl hl (Nat.le_of_ble_eq_true rfl) rfl ?_, hg⟩
  refine r_aload_n (dc_X4_append 0 rfl) rfl rfl ?_
  refine r_dup (dc_X4_append 1 rfl) rfl ?_
  obtain ⟨x1, e0, h⟩ := Option.bind_eq_some_iff.mp h
  refine r_getI (dc_X4_append 2 rfl) fl_RX4_17 e0 ?_
  refine r_iconst (dc_X4_append 3 rfl) kiconst_1 ?_
  refine r_iadd (dc_X4_append 4 rfl) ?_
  obtain ⟨s2, e0, h⟩ := Option.bind_eq_some_iff.mp h
  refine r_put (dc_X4_append 5 rfl) pl_RX4_17 rfl e0 ?_
  refine r_aload_n (dc_X4_append 6 rfl) rfl rfl ?_
  refine r_aload_n (dc_X4_append 7 rfl) rfl rfl ?_
  obtain ⟨x3, e0, h⟩ := Option.bind_eq_some_iff.mp h
  refine r_getI (dc_X4_append 8 rfl) fl_RX4_17 e0 ?_
  refine r_iconst (dc_X4_append 9 rfl) kiconst_1 ?_
  refine r_isub (dc_X4_append 10 rfl) ?_
  obtain ⟨p5, s4, e0, h⟩ := wb_some h
  refine r_callV (dc_X4_append 11 rfl) mv_X4_at ml_RX4_25 (As := [.int (x3 - (1 : Int32))]) (t_X4_at (d := d - 1) hl (by omega) e0) (by omega) rfl (Nat.le_of_ble_eq_true rfl) ?_
  cases h
  exact r_areturn (dc_X4_append 12 rfl) rfl
theorem l_X4_copyOf_L7 {G : Gx} {d : Nat} (hl : G.1.stackTraces = false) (hd : 4 ≤ d) {pL0 : Nat} {pL1 : Nat} {r : Sto} {k33 : Sto → Option Sto}
    (hk33 : ∀ (sL : Sto), k33 sL = some r → J G d m_X4_copyOf 33 [] [] sL (.inl none) r)
  : ∀ (f : Nat) (xL2 : Int32) (sL : Sto), F_X4_copyOf_L7 pL0 pL1 f xL2 sL k33 = some r → J G d m_X4_copyOf 7 [(0, .ref pL0), (1, .ref pL1), (2, .int xL2)] [] sL (.inl none) r := by
  intro f
  induction f with
  | zero => intro xL2 sL h; rw [F_X4_copyOf_L7] at h; cases h
  | succ f ih =>
    intro xL2 sL h
    rw [F_X4_copyOf_L7] at h
    refine r_iload_n (dc_X4_copyOf 5 rfl) rfl rfl ?_
    refine r_aload_n (dc_X4_copyOf 6 rfl) rfl rfl ?_
    obtain ⟨x2, e0, h⟩ := Option.bind_eq_some_iff.mp h
    refine r_getI (dc_X4_copyOf 7 rfl) fl_RX4_17 e0 ?_
    refine r_icmp_ge (dc_X4_copyOf 8 rfl) (tgt := 33) (by decide) (fun c0 => ?_) (fun c0 => ?_)
    · rw [if_pos c0] at h
      refine r_pick [] (lo' := []) rfl ?_
      exact hk33 _ h
    · rw [if_neg c0] at h
      refine r_aload_n (dc_X4_copyOf 9 rfl) rfl rfl ?_
      obtain ⟨p4, s3, e0, h⟩ := wb_some h
      refine r_callV (dc_X4_copyOf 10 rfl) mv_X4_append ml_RX4_21 (As := []) (t_X4_append (d := d - 1) hl (by omega) e0) (by omega) rfl (Nat.le_of_ble_eq_true rfl) ?_
      refine r_aload_n (dc_X4_copyOf 11 rfl) rfl rfl ?_
      refine r_iload_n (dc_X4_copyOf 12 rfl) rfl rfl ?_
      obtain ⟨p6, s5, e0, h⟩ := wb_some h
      refine r_callV (dc_X4_copyOf 13 rfl) mv_X4_at ml_RX4_25 (As := [.int xL2]) (t_X4_at (d := d - 1) hl (by omega) e0) (by omega) rfl (Nat.le_of_ble_eq_true rfl) ?_
      obtain ⟨s7, e0, h⟩ := Option.bind_eq_some_iff.mp h
      refine r_callV (dc_X4_copyOf 14 rfl) mv_X3_copyOf ml_RX4_29 (As := [.ref p6]) (t_X3_copyOf (d := d - 1) hl (by omega) e0) (by omega) rfl (Nat.le_of_ble_eq_true rfl) ?_
      refine r_iinc (dc_X4_copyOf 15 rfl) rfl (kinc_1 _) (by decide) (lo' := [(2, .int (xL2 + (1 : Int32))), (0, .ref pL0), (1, .ref pL1)]) rfl ?_
      refine r_goto (dc_X4_copyOf 16 rfl) (tgt := 7) (by decide) ?_
      refine r_pick [1, 2, 0] (lo' := [(0, .ref pL0), (1, .ref pL1), (2, .int (xL2 + (1 : Int32)))]) rfl ?_
      exact ih _ _ h
theorem t_X4_copyOf {G : Gx} {d : Nat} (hl : G.1.stackTraces = false) (hd : 4 ≤ d) {σ : Sto} {a0 : Nat} {pa1 : Nat} {r : Sto} (h : F_X4_copyOf σ a0 pa1 = some r) : Mi G d m_X4_copyOf 4 a0 [.ref pa1] σ (.inl none) r := by
  rw [F_X4_copyOf] at h
  obtain ⟨hg, h⟩ := chk_some h
  refine ⟨J.toMt (lo := [(0, .ref a0), (1, .ref pa1)]) pn_RX4 rfl hl (Nat.le_of_ble_eq_true rfl) rfl ?_, hg⟩
  refine r_aload_n (dc_X4_copyOf 0 rfl) rfl rfl ?_
  refine r_iconst (dc_X4_copyOf 1 rfl) kiconst_0 ?_
  obtain ⟨s1, e0, h⟩ := Option.bind_eq_some_iff.mp h
  refine r_put (dc_X4_copyOf 2 rfl) pl_RX4_17 rfl e0 ?_
  refine r_iconst (dc_X4_copyOf 3 rfl) kiconst_0 ?_
  refine r_istore_n (dc_X4_copyOf 4 rfl) rfl (by decide) (lo' := [(2, .int (0 : Int32)), (0, .ref a0), (1, .ref pa1)]) rfl ?_
  refine r_pick [1, 2, 0] (lo' := [(0, .ref a0), (1, .ref pa1), (2, .int (0 : Int32))]) rfl ?_
  refine l_X4_copyOf_L7 hl hd (hk33 := ?_) fu _ _ h
  · intro s8 h
    cases h
    exact r_vreturn (dc_X4_copyOf 17 rfl) rfl
theorem t_X4_isFull {G : Gx} {d : Nat} (hl : G.1.stackTraces = false) (hd : 0 ≤ d) {σ : Sto} {a0 : Nat} {r : Int32} (h : F_X4_isFull σ a0 = some r) : Mi G d m_X4_isFull 4 a0 [] σ (.inl (some (.int r))) σ := by
  rw [F_X4_isFull] at h
  obtain ⟨hg, h⟩ := chk_some h
  refine ⟨J.toMt (lo := [(0, .ref a0)]) pn_RX4 rfl hl (Nat.le_of_ble_eq_true rfl) rfl ?_, hg⟩
  refine r_aload_n (dc_X4_isFull 0 rfl) rfl rfl ?_
  obtain ⟨x1, e0, h⟩ := Option.bind_eq_some_iff.mp h
  refine r_getI (dc_X4_isFull 1 rfl) fl_RX4_17 e0 ?_
  refine r_bipush (dc_X4_isFull 2 rfl) kbipush_12 ?_
  refine r_icmp_lt (dc_X4_isFull 3 rfl) (tgt := 13) (by decide) (fun c0 => ?_) (fun c0 => ?_)
  · rw [if_pos c0] at h
    refine r_iconst (dc_X4_isFull 6 rfl) kiconst_0 ?_
    cases h
    exact r_zreturn (dc_X4_isFull 7 rfl) rfl (Or.inl rfl)
  · rw [if_neg c0] at h
    refine r_iconst (dc_X4_isFull 4 rfl) kiconst_1 ?_
    refine r_goto (dc_X4_isFull 5 rfl) (tgt := 14) (by decide) ?_
    cases h
    exact r_zreturn (dc_X4_isFull 7 rfl) rfl (Or.inr rfl)
theorem l_X4_remove_L9 {G : Gx} {d : Nat} (hl : G.1.stackTraces = false) (hd : 0 ≤ d) {pL0 : Nat} {pL2 : Nat} {r : Sto} {k39 : Sto → Option Sto}
    (hk39 : ∀ (sL : Sto), k39 sL = some r → J G d m_X4_remove 39 [(0, .ref pL0), (2, .ref pL2)] [] sL (.inl none) r)
  : ∀ (f : Nat) (xL3 : Int32) (sL : Sto), F_X4_remove_L9 pL0 f xL3 sL k39 = some r → J G d m_X4_remove 9 [(0, .ref pL0), (2, .ref pL2), (3, .int xL3)] [] sL (.inl none) r := by
  intro f
  induction f with
  | zero => intro xL3 sL h; rw [F_X4_remove_L9] at h; cases h
  | succ f ih =>
    intro xL3 sL h
    rw [F_X4_remove_L9] at h
    refine r_iload_n (dc_X4_remove 7 rfl) rfl rfl ?_
    refine r_iconst (dc_X4_remove 8 rfl) kiconst_1 ?_
    refine r_iadd (dc_X4_remove 9 rfl) ?_
    refine r_aload_n (dc_X4_remove 10 rfl) rfl rfl ?_
    obtain ⟨x3, e0, h⟩ := Option.bind_eq_some_iff.mp h
    refine r_getI (dc_X4_remove 11 rfl) fl_RX4_17 e0 ?_
    refine r_icmp_ge (dc_X4_remove 12 rfl) (tgt := 39) (by decide) (fun c0 => ?_) (fun c0 => ?_)
    · rw [if_pos c0] at h
      refine r_pick [0, 1] (lo' := [(0, .ref pL0), (2, .ref pL2)]) rfl ?_
      exact hk39 _ h
    · rw [if_neg c0] at h
      refine r_aload_n (dc_X4_remove 13 rfl) rfl rfl ?_
      obtain ⟨p4, e0, h⟩ := Option.bind_eq_some_iff.mp h
      refine r_getR (dc_X4_remove 14 rfl) fl_RX4_11 e0 ?_
      refine r_iload_n (dc_X4_remove 15 rfl) rfl rfl ?_
      refine r_aload_n (dc_X4_remove 16 rfl) rfl rfl ?_
      obtain ⟨p5, e0, h⟩ := Option.bind_eq_some_iff.mp h
      refine r_getR (dc_X4_remove 17 rfl) fl_RX4_11 e0 ?_
      refine r_iload_n (dc_X4_remove 18 rfl) rfl rfl ?_
      refine r_iconst (dc_X4_remove 19 rfl) kiconst_1 ?_
      refine r_iadd (dc_X4_remove 20 rfl) ?_
      obtain ⟨p6, e0, h⟩ := Option.bind_eq_some_iff.mp h
      refine r_aaldR (dc_X4_remove 21 rfl) (kd := 6) rfl e0 ?_
      obtain ⟨s7, e0, h⟩ := Option.bind_eq_some_iff.mp h
      refine r_aast (dc_X4_remove 22 rfl) (kd := 6) rfl rfl e0 ?_
      refine r_iinc (dc_X4_remove 23 rfl) rfl (kinc_1 _) (by decide) (lo' := [(3, .int (xL3 + (1 : Int32))), (0, .ref pL0), (2, .ref pL2)]) rfl ?_
      refine r_goto (dc_X4_remove 24 rfl) (tgt := 9) (by decide) ?_
      refine r_pick [1, 2, 0] (lo' := [(0, .ref pL0), (2, .ref pL2), (3, .int (xL3 + (1 : Int32)))]) rfl ?_
      exact ih _ _ h
theorem t_X4_remove {G : Gx} {d : Nat} (hl : G.1.stackTraces = false) (hd : 0 ≤ d) {σ : Sto} {a0 : Nat} {xa1 : Int32} {r : Sto} (h : F_X4_remove σ a0 xa1 = some r) : Mi G d m_X4_remove 4 a0 [.int xa1] σ (.inl none) r := by
  rw [F_X4_remove] at h
  obtain ⟨hg, h⟩ := chk_some h
  refine ⟨J.toMt (lo := [(0, .ref a0), (1, .int xa1)]) pn_RX4 rfl hl (Nat.le_of_ble_eq_true rfl) rfl ?_, hg⟩
  refine r_aload_n (dc_X4_remove 0 rfl) rfl rfl ?_
  obtain ⟨p1, e0, h⟩ := Option.bind_eq_some_iff.mp h
  refine r_getR (dc_X4_remove 1 rfl) fl_RX4_11 e0 ?_
  refine r_iload_n (dc_X4_remove 2 rfl) rfl rfl ?_
  obtain ⟨p2, e0, h⟩ := Option.bind_eq_some_iff.mp h
  refine r_aaldR (dc_X4_remove 3 rfl) (kd := 6) rfl e0 ?_
  refine r_astore_n (dc_X4_remove 4 rfl) rfl (by decide) (lo' := [(2, .ref p2), (0, .ref a0), (1, .int xa1)]) rfl ?_
  refine r_iload_n (dc_X4_remove 5 rfl) rfl rfl ?_
  refine r_istore_n (dc_X4_remove 6 rfl) rfl (by decide) (lo' := [(3, .int xa1), (2, .ref p2), (0, .ref a0), (1, .int xa1)]) rfl ?_
  refine r_pick [2, 1, 0] (lo' := [(0, .ref a0), (2, .ref p2), (3, .int xa1)]) rfl ?_
  refine l_X4_remove_L9 hl hd (hk39 := ?_) fu _ _ h
  · intro s8 h
    refine r_aload_n (dc_X4_remove 25 rfl) rfl rfl ?_
    refine r_dup (dc_X4_remove 26 rfl) rfl ?_
    obtain ⟨x9, e0, h⟩ := Option.bind_eq_some_iff.mp h
    refine r_getI (dc_X4_remove 27 rfl) fl_RX4_17 e0 ?_
    refine r_iconst (dc_X4_remove 28 rfl) kiconst_1 ?_
    refine r_isub (dc_X4_remove 29 rfl) ?_
    obtain ⟨s10, e0, h⟩ := Option.bind_eq_some_iff.mp h
    refine r_put (dc_X4_remove 30 rfl) pl_RX4_17 rfl e0 ?_
    refine r_aload_n (dc_X4_remove 31 rfl) rfl rfl ?_
    obtain ⟨p11, e0, h⟩ := Option.bind_eq_some_iff.mp h
    refine r_getR (dc_X4_remove 32 rfl) fl_RX4_11 e0 ?_
    refine r_aload_n (dc_X4_remove 33 rfl) rfl rfl ?_
    obtain ⟨x12, e0, h⟩ := Option.bind_eq_some_iff.mp h
    refine r_getI (dc_X4_remove 34 rfl) fl_RX4_17 e0 ?_
    refine r_aload_n (dc_X4_remove 35 rfl) rfl rfl ?_
    obtain ⟨s13, e0, h⟩ := Option.bind_eq_some_iff.mp h
    refine r_aast (dc_X4_remove 36 rfl) (kd := 6) rfl rfl e0 ?_
    cases h
    exact r_vreturn (dc_X4_remove 37 rfl) rfl
theorem t_X6_init {G : Gx} {d : Nat} (hl : G.1.stackTraces = false) (hd : 2 ≤ d) {σ : Sto} {a0 : Nat} {r : Sto} (h : F_X6_init σ a0 = some r) : Mt G d m_X6_init [Value.ref a0] σ (.inl none) r := by
  rw [F_X6_init] at h
  refine J.toMt (lo := [(0, .ref a0)]) pn_RX6 rfl hl (Nat.le_of_ble_eq_true rfl) rfl ?_
  refine r_aload_n (dc_X6_init 0 rfl) rfl rfl ?_
  refine r_objInit (dc_X6_init 1 rfl) ml_RX6_3 w_obj1 w_obj2 (by omega) (Nat.le_of_ble_eq_true rfl) ?_
  refine r_aload_n (dc_X6_init 2 rfl) rfl rfl ?_
  obtain ⟨p2, s1, ev, es, h⟩ := nw_some h
  refine r_new (dc_X6_init 3 rfl) nl_RX6_9 ?_
  rw [← ev, ← es]
  refine r_dup (dc_X6_init 4 rfl) rfl ?_
  obtain ⟨u0, e0, h⟩ := Option.bind_eq_some_iff.mp h
  refine r_callIN (dc_X6_init 5 rfl) mi_X1_init mn_RX6_11 (As := []) (t_X1_init (d := d - 1) hl (by omega) e0) (by omega) rfl (Nat.le_of_ble_eq_true rfl) ?_
  obtain ⟨s3, e0, h⟩ := Option.bind_eq_some_iff.mp h
  refine r_putX (dc_X6_init 6 rfl) pl_RX6_12 (Or.inr ⟨rfl, fun q hq => by cases hq; rfl⟩) rfl e0 ?_
  refine r_aload_n (dc_X6_init 7 rfl) rfl rfl ?_
  obtain ⟨p5, s4, ev, es, h⟩ := nw_some h
  refine r_new (dc_X6_init 8 rfl) nl_RX6_9 ?_
  rw [← ev, ← es]
  refine r_dup (dc_X6_init 9 rfl) rfl ?_
  obtain ⟨u0, e0, h⟩ := Option.bind_eq_some_iff.mp h
  refine r_callIN (dc_X6_init 10 rfl) mi_X1_init mn_RX6_11 (As := []) (t_X1_init (d := d - 1) hl (by omega) e0) (by omega) rfl (Nat.le_of_ble_eq_true rfl) ?_
  obtain ⟨s6, e0, h⟩ := Option.bind_eq_some_iff.mp h
  refine r_putX (dc_X6_init 11 rfl) pl_RX6_18 (Or.inr ⟨rfl, fun q hq => by cases hq; rfl⟩) rfl e0 ?_
  refine r_aload_n (dc_X6_init 12 rfl) rfl rfl ?_
  refine r_bipush (dc_X6_init 13 rfl) kbipush_120 ?_
  obtain ⟨p8, s7, ev, es, h⟩ := nw_some h
  refine r_newI (dc_X6_init 14 rfl) ac_int (by decide) (by decide +kernel) ?_
  rw [← ev, ← es]
  obtain ⟨s9, e0, h⟩ := Option.bind_eq_some_iff.mp h
  refine r_putX (dc_X6_init 15 rfl) pl_RX6_21 (Or.inr ⟨rfl, fun q hq => by cases hq; rfl⟩) rfl e0 ?_
  refine r_aload_n (dc_X6_init 16 rfl) rfl rfl ?_
  refine r_bipush (dc_X6_init 17 rfl) kbipush_25 ?_
  obtain ⟨p11, s10, ev, es, h⟩ := nw_some h
  refine r_newI (dc_X6_init 18 rfl) ac_int (by decide) (by decide +kernel) ?_
  rw [← ev, ← es]
  obtain ⟨s12, e0, h⟩ := Option.bind_eq_some_iff.mp h
  refine r_putX (dc_X6_init 19 rfl) pl_RX6_25 (Or.inr ⟨rfl, fun q hq => by cases hq; rfl⟩) rfl e0 ?_
  refine r_aload_n (dc_X6_init 20 rfl) rfl rfl ?_
  refine r_bipush (dc_X6_init 21 rfl) kbipush_120 ?_
  obtain ⟨p14, s13, ev, es, h⟩ := nw_some h
  refine r_newI (dc_X6_init 22 rfl) ac_int (by decide) (by decide +kernel) ?_
  rw [← ev, ← es]
  obtain ⟨s15, e0, h⟩ := Option.bind_eq_some_iff.mp h
  refine r_putX (dc_X6_init 23 rfl) pl_RX6_28 (Or.inr ⟨rfl, fun q hq => by cases hq; rfl⟩) rfl e0 ?_
  refine r_aload_n (dc_X6_init 24 rfl) rfl rfl ?_
  refine r_bipush (dc_X6_init 25 rfl) kbipush_120 ?_
  obtain ⟨p17, s16, ev, es, h⟩ := nw_some h
  refine r_newI (dc_X6_init 26 rfl) ac_int (by decide) (by decide +kernel) ?_
  rw [← ev, ← es]
  obtain ⟨s18, e0, h⟩ := Option.bind_eq_some_iff.mp h
  refine r_putX (dc_X6_init 27 rfl) pl_RX6_31 (Or.inr ⟨rfl, fun q hq => by cases hq; rfl⟩) rfl e0 ?_
  cases h
  exact r_vreturn (dc_X6_init 28 rfl) rfl
theorem l_X5_init_L67 {G : Gx} {d : Nat} (hl : G.1.stackTraces = false) (hd : 3 ≤ d) {pL0 : Nat} {r : Sto} {k91 : Sto → Option Sto}
    (hk91 : ∀ (sL : Sto), k91 sL = some r → J G d m_X5_init 91 [] [] sL (.inl none) r)
  : ∀ (f : Nat) (xL2 : Int32) (sL : Sto), F_X5_init_L67 pL0 f xL2 sL k91 = some r → J G d m_X5_init 67 [(0, .ref pL0), (2, .int xL2)] [] sL (.inl none) r := by
  intro f
  induction f with
  | zero => intro xL2 sL h; rw [F_X5_init_L67] at h; cases h
  | succ f ih =>
    intro xL2 sL h
    rw [F_X5_init_L67] at h
    refine r_iload_n (dc_X5_init 33 rfl) rfl rfl ?_
    refine r_iconst (dc_X5_init 34 rfl) kiconst_5 ?_
    refine r_icmp_ge (dc_X5_init 35 rfl) (tgt := 91) (by decide) (fun c0 => ?_) (fun c0 => ?_)
    · rw [if_pos c0] at h
      refine r_pick [] (lo' := []) rfl ?_
      exact hk91 _ h
    · rw [if_neg c0] at h
      refine r_aload_n (dc_X5_init 36 rfl) rfl rfl ?_
      obtain ⟨p20, e0, h⟩ := Option.bind_eq_some_iff.mp h
      refine r_getR (dc_X5_init 37 rfl) fl_RX5_11 e0 ?_
      refine r_iload_n (dc_X5_init 38 rfl) rfl rfl ?_
      obtain ⟨p22, s21, ev, es, h⟩ := nw_some h
      refine r_new (dc_X5_init 39 rfl) nl_RX5_9 ?_
      rw [← ev, ← es]
      refine r_dup (dc_X5_init 40 rfl) rfl ?_
      obtain ⟨s23, e0, h⟩ := Option.bind_eq_some_iff.mp h
      refine r_callIN (dc_X5_init 41 rfl) mi_X6_init mn_RX5_44 (As := []) (t_X6_init (d := d - 1) hl (by omega) e0) (by omega) rfl (Nat.le_of_ble_eq_true rfl) ?_
      obtain ⟨s24, e0, h⟩ := Option.bind_eq_some_iff.mp h
      refine r_aast (dc_X5_init 42 rfl) (kd := 4) rfl rfl e0 ?_
      refine r_iinc (dc_X5_init 43 rfl) rfl (kinc_1 _) (by decide) (lo' := [(2, .int (xL2 + (1 : Int32))), (0, .ref pL0)]) rfl ?_
      refine r_goto (dc_X5_init 44 rfl) (tgt := 67) (by decide) ?_
      refine r_pick [1, 0] (lo' := [(0, .ref pL0), (2, .int (xL2 + (1 : Int32)))]) rfl ?_
      exact ih _ _ h
theorem t_X5_init {G : Gx} {d : Nat} (hl : G.1.stackTraces = false) (hd : 3 ≤ d) {σ : Sto} {a0 : Nat} {pa1 : Nat} {r : Sto} (h : F_X5_init σ a0 pa1 = some r) : Mt G d m_X5_init [Value.ref a0, .ref pa1] σ (.inl none) r := by
  rw [F_X5_init] at h
  refine J.toMt (lo := [(0, .ref a0), (1, .ref pa1)]) pn_RX5 rfl hl (Nat.le_of_ble_eq_true rfl) rfl ?_
  refine r_aload_n (dc_X5_init 0 rfl) rfl rfl ?_
  refine r_objInit (dc_X5_init 1 rfl) ml_RX5_3 w_obj1 w_obj2 (by omega) (Nat.le_of_ble_eq_true rfl) ?_
  refine r_aload_n (dc_X5_init 2 rfl) rfl rfl ?_
  refine r_iconst (dc_X5_init 3 rfl) kiconst_5 ?_
  obtain ⟨p2, s1, ev, es, h⟩ := nw_some h
  refine r_newR (dc_X5_init 4 rfl) (kd := 4) rfl cl_RX5_9 (by decide) (by decide) (by decide +kernel) ?_
  rw [← ev, ← es]
  obtain ⟨s3, e0, h⟩ := Option.bind_eq_some_iff.mp h
  refine r_putX (dc_X5_init 5 rfl) pl_RX5_11 (Or.inr ⟨rfl, fun q hq => by cases hq; rfl⟩) rfl e0 ?_
  refine r_aload_n (dc_X5_init 6 rfl) rfl rfl ?_
  obtain ⟨p5, s4, ev, es, h⟩ := nw_some h
  refine r_new (dc_X5_init 7 rfl) nl_RX5_17 ?_
  rw [← ev, ← es]
  refine r_dup (dc_X5_init 8 rfl) rfl ?_
  obtain ⟨p7, s6, ev, es, h⟩ := nw_some h
  refine r_new (dc_X5_init 9 rfl) nl_RX5_19 ?_
  rw [← ev, ← es]
  refine r_dup (dc_X5_init 10 rfl) rfl ?_
  obtain ⟨u0, e0, h⟩ := Option.bind_eq_some_iff.mp h
  refine r_callIN (dc_X5_init 11 rfl) mi_X1_init mn_RX5_21 (As := []) (t_X1_init (d := d - 1) hl (by omega) e0) (by omega) rfl (Nat.le_of_ble_eq_true rfl) ?_
  obtain ⟨s8, e0, h⟩ := Option.bind_eq_some_iff.mp h
  refine r_callI (dc_X5_init 12 rfl) mi_X3_init ml_RX5_22 (As := [.ref p7]) (t_X3_init (d := d - 1) hl (by omega) e0) (by omega) rfl (Nat.le_of_ble_eq_true rfl) ?_
  obtain ⟨s9, e0, h⟩ := Option.bind_eq_some_iff.mp h
  refine r_putX (dc_X5_init 13 rfl) pl_RX5_25 (Or.inr ⟨rfl, fun q hq => by cases hq; rfl⟩) rfl e0 ?_
  refine r_aload_n (dc_X5_init 14 rfl) rfl rfl ?_
  obtain ⟨p11, s10, ev, es, h⟩ := nw_some h
  refine r_new (dc_X5_init 15 rfl) nl_RX5_19 ?_
  rw [← ev, ← es]
  refine r_dup (dc_X5_init 16 rfl) rfl ?_
  obtain ⟨u0, e0, h⟩ := Option.bind_eq_some_iff.mp h
  refine r_callIN (dc_X5_init 17 rfl) mi_X1_init mn_RX5_21 (As := []) (t_X1_init (d := d - 1) hl (by omega) e0) (by omega) rfl (Nat.le_of_ble_eq_true rfl) ?_
  obtain ⟨s12, e0, h⟩ := Option.bind_eq_some_iff.mp h
  refine r_putX (dc_X5_init 18 rfl) pl_RX5_29 (Or.inr ⟨rfl, fun q hq => by cases hq; rfl⟩) rfl e0 ?_
  refine r_aload_n (dc_X5_init 19 rfl) rfl rfl ?_
  obtain ⟨p14, s13, ev, es, h⟩ := nw_some h
  refine r_new (dc_X5_init 20 rfl) nl_RX5_19 ?_
  rw [← ev, ← es]
  refine r_dup (dc_X5_init 21 rfl) rfl ?_
  obtain ⟨u0, e0, h⟩ := Option.bind_eq_some_iff.mp h
  refine r_callIN (dc_X5_init 22 rfl) mi_X1_init mn_RX5_21 (As := []) (t_X1_init (d := d - 1) hl (by omega) e0) (by omega) rfl (Nat.le_of_ble_eq_true rfl) ?_
  obtain ⟨s15, e0, h⟩ := Option.bind_eq_some_iff.mp h
  refine r_putX (dc_X5_init 23 rfl) pl_RX5_33 (Or.inr ⟨rfl, fun q hq => by cases hq; rfl⟩) rfl e0 ?_
  refine r_aload_n (dc_X5_init 24 rfl) rfl rfl ?_
  refine r_bipush (dc_X5_init 25 rfl) kbipush_25 ?_
  obtain ⟨p17, s16, ev, es, h⟩ := nw_some h
  refine r_newI (dc_X5_init 26 rfl) ac_int (by decide) (by decide +kernel) ?_
  rw [← ev, ← es]
  obtain ⟨s18, e0, h⟩ := Option.bind_eq_some_iff.mp h
  refine r_putX (dc_X5_init 27 rfl) pl_RX5_36 (Or.inr ⟨rfl, fun q hq => by cases hq; rfl⟩) rfl e0 ?_
  refine r_aload_n (dc_X5_init 28 rfl) rfl rfl ?_
  refine r_aload_n (dc_X5_init 29 rfl) rfl rfl ?_
  obtain ⟨s19, e0, h⟩ := Option.bind_eq_some_iff.mp h
  refine r_putX (dc_X5_init 30 rfl) pl_RX5_40 (Or.inr ⟨rfl, fun q hq => by cases hq; rfl⟩) rfl e0 ?_
  refine r_iconst (dc_X5_init 31 rfl) kiconst_0 ?_
  refine r_istore_n (dc_X5_init 32 rfl) rfl (by decide) (lo' := [(2, .int (0 : Int32)), (0, .ref a0), (1, .ref pa1)]) rfl ?_
  refine r_pick [1, 0] (lo' := [(0, .ref a0), (2, .int (0 : Int32))]) rfl ?_
  refine l_X5_init_L67 hl hd (hk91 := ?_) fu _ _ h
  · intro s25 h
    cases h
    exact r_vreturn (dc_X5_init 45 rfl) rfl
theorem l_X5_findMissing_L2 {G : Gx} {d : Nat} (hl : G.1.stackTraces = false) (hd : 1 ≤ d) {pL0 : Nat} {r : Sto} {k21 : Sto → Option Sto}
    (hk21 : ∀ (sL : Sto), k21 sL = some r → J G d m_X5_findMissing 21 [(0, .ref pL0)] [] sL (.inl none) r)
  : ∀ (f : Nat) (xL1 : Int32) (sL : Sto), F_X5_findMissing_L2 pL0 f xL1 sL k21 = some r → J G d m_X5_findMissing 2 [(0, .ref pL0), (1, .int xL1)] [] sL (.inl none) r := by
  intro f
  induction f with
  | zero => intro xL1 sL h; rw [F_X5_findMissing_L2] at h; cases h
  | succ f ih =>
    intro xL1 sL h
    rw [F_X5_findMissing_L2] at h
    refine r_iload_n (dc_X5_findMissing 2 rfl) rfl rfl ?_
    refine r_bipush (dc_X5_findMissing 3 rfl) kbipush_25 ?_
    refine r_icmp_ge (dc_X5_findMissing 4 rfl) (tgt := 21) (by decide) (fun c0 => ?_) (fun c0 => ?_)
    · rw [if_pos c0] at h
      refine r_pick [0] (lo' := [(0, .ref pL0)]) rfl ?_
      exact hk21 _ h
    · rw [if_neg c0] at h
      refine r_aload_n (dc_X5_findMissing 5 rfl) rfl rfl ?_
      obtain ⟨p1, e0, h⟩ := Option.bind_eq_some_iff.mp h
      refine r_getR (dc_X5_findMissing 6 rfl) fl_RX5_36 e0 ?_
      refine r_iload_n (dc_X5_findMissing 7 rfl) rfl rfl ?_
      refine r_iconst (dc_X5_findMissing 8 rfl) kiconst_0 ?_
      obtain ⟨s2, e0, h⟩ := Option.bind_eq_some_iff.mp h
      refine r_iast (dc_X5_findMissing 9 rfl) e0 ?_
      refine r_iinc (dc_X5_findMissing 10 rfl) rfl (kinc_1 _) (by decide) (lo' := [(1, .int (xL1 + (1 : Int32))), (0, .ref pL0)]) rfl ?_
      refine r_goto (dc_X5_findMissing 11 rfl) (tgt := 2) (by decide) ?_
      refine r_pick [1, 0] (lo' := [(0, .ref pL0), (1, .int (xL1 + (1 : Int32)))]) rfl ?_
      exact ih _ _ h
theorem l_X5_findMissing_L36 {G : Gx} {d : Nat} (hl : G.1.stackTraces = false) (hd : 1 ≤ d) {pL0 : Nat} {xL1 : Int32} {r : Sto} {k119 : Sto → Option Sto}
    (hk119 : ∀ (sL : Sto), k119 sL = some r → J G d m_X5_findMissing 119 [(0, .ref pL0), (1, .int xL1)] [] sL (.inl none) r)
  : ∀ (f : Nat) (xL2 : Int32) (sL : Sto), F_X5_findMissing_L36 pL0 xL1 f xL2 sL k119 = some r → J G d m_X5_findMissing 36 [(0, .ref pL0), (1, .int xL1), (2, .int xL2)] [] sL (.inl none) r := by
  intro f
  induction f with
  | zero => intro xL2 sL h; rw [F_X5_findMissing_L36] at h; cases h
  | succ f ih =>
    intro xL2 sL h
    rw [F_X5_findMissing_L36] at h
    refine r_iload_n (dc_X5_findMissing 21 rfl) rfl rfl ?_
    refine r_aload_n (dc_X5_findMissing 22 rfl) rfl rfl ?_
    obtain ⟨p6, e0, h⟩ := Option.bind_eq_some_iff.mp h
    refine r_getR (dc_X5_findMissing 23 rfl) fl_RX5_40 e0 ?_
    obtain ⟨p7, e0, h⟩ := Option.bind_eq_some_iff.mp h
    refine r_getR (dc_X5_findMissing 24 rfl) fl_RX5_50 e0 ?_
    obtain ⟨x8, e0, h⟩ := Option.bind_eq_some_iff.mp h
    refine r_getI (dc_X5_findMissing 25 rfl) fl_RX5_54 e0 ?_
    refine r_icmp_ge (dc_X5_findMissing 26 rfl) (tgt := 119) (by decide) (fun c0 => ?_) (fun c0 => ?_)
    · rw [if_pos c0] at h
      refine r_pick [0, 1] (lo' := [(0, .ref pL0), (1, .int xL1)]) rfl ?_
      exact hk119 _ h
    · rw [if_neg c0] at h
      refine r_iload_n (dc_X5_findMissing 27 rfl) rfl rfl ?_
      refine r_aload_n (dc_X5_findMissing 28 rfl) rfl rfl ?_
      obtain ⟨p9, e0, h⟩ := Option.bind_eq_some_iff.mp h
      refine r_getR (dc_X5_findMissing 29 rfl) fl_RX5_40 e0 ?_
      obtain ⟨p10, e0, h⟩ := Option.bind_eq_some_iff.mp h
      refine r_getR (dc_X5_findMissing 30 rfl) fl_RX5_50 e0 ?_
      obtain ⟨p11, e0, h⟩ := Option.bind_eq_some_iff.mp h
      refine r_getR (dc_X5_findMissing 31 rfl) fl_RX5_59 e0 ?_
      refine r_iload_n (dc_X5_findMissing 32 rfl) rfl rfl ?_
      obtain ⟨x12, e0, h⟩ := Option.bind_eq_some_iff.mp h
      refine r_iald (dc_X5_findMissing 33 rfl) e0 ?_
      obtain ⟨x13, e0, h⟩ := Option.bind_eq_some_iff.mp h
      refine r_callSN (dc_X5_findMissing 34 rfl) ms_X9_cell mn_RX5_62 (As := [.int xL1, .int x12]) (t_X9_cell (d := d - 1) hl (by omega) e0) (by omega) rfl (Nat.le_of_ble_eq_true rfl) ?_
      refine r_istore_n (dc_X5_findMissing 35 rfl) rfl (by decide) (lo' := [(3, .int x13), (0, .ref pL0), (1, .int xL1), (2, .int xL2)]) rfl ?_
      refine r_aload_n (dc_X5_findMissing 36 rfl) rfl rfl ?_
      obtain ⟨p14, e0, h⟩ := Option.bind_eq_some_iff.mp h
      refine r_getR (dc_X5_findMissing 37 rfl) fl_RX5_36 e0 ?_
      refine r_iload_n (dc_X5_findMissing 38 rfl) rfl rfl ?_
      obtain ⟨x15, e0, h⟩ := Option.bind_eq_some_iff.mp h
      refine r_iald (dc_X5_findMissing 39 rfl) e0 ?_
      refine r_if_ne (dc_X5_findMissing 40 rfl) (tgt := 113) (by decide) (fun c0 => ?_) (fun c0 => ?_)
      · rw [if_neg c0] at h
        refine r_iinc (dc_X5_findMissing 60 rfl) rfl (kinc_1 _) (by decide) (lo' := [(2, .int (xL2 + (1 : Int32))), (3, .int x13), (0, .ref pL0), (1, .int xL1)]) rfl ?_
        refine r_goto (dc_X5_findMissing 61 rfl) (tgt := 36) (by decide) ?_
        refine r_pick [2, 3, 0] (lo' := [(0, .ref pL0), (1, .int xL1), (2, .int (xL2 + (1 : Int32)))]) rfl ?_
        exact ih _ _ h
      · rw [if_pos c0] at h
        refine r_aload_n (dc_X5_findMissing 41 rfl) rfl rfl ?_
        obtain ⟨p16, e0, h⟩ := Option.bind_eq_some_iff.mp h
        refine r_getR (dc_X5_findMissing 42 rfl) fl_RX5_40 e0 ?_
        obtain ⟨p17, e0, h⟩ := Option.bind_eq_some_iff.mp h
        refine r_getR (dc_X5_findMissing 43 rfl) fl_RX5_66 e0 ?_
        refine r_iload_n (dc_X5_findMissing 44 rfl) rfl rfl ?_
        obtain ⟨p18, e0, h⟩ := Option.bind_eq_some_iff.mp h
        refine r_aaldR (dc_X5_findMissing 45 rfl) (kd := 4) rfl e0 ?_
        obtain ⟨p19, e0, h⟩ := Option.bind_eq_some_iff.mp h
        refine r_getR (dc_X5_findMissing 46 rfl) fl_RX5_69 e0 ?_
        refine r_iload_n (dc_X5_findMissing 47 rfl) rfl rfl ?_
        obtain ⟨x20, e0, h⟩ := Option.bind_eq_some_iff.mp h
        refine r_callV (dc_X5_findMissing 48 rfl) mv_X1_holds ml_RX5_72 (As := [.int xL2]) (t_X1_holds (d := d - 1) hl (by omega) e0) (by omega) rfl (Nat.le_of_ble_eq_true rfl) ?_
        refine r_if_ne (dc_X5_findMissing 49 rfl) (tgt := 113) (by decide) (fun c0 => ?_) (fun c0 => ?_)
        · rw [if_neg c0] at h
          refine r_iinc (dc_X5_findMissing 60 rfl) rfl (kinc_1 _) (by decide) (lo' := [(2, .int (xL2 + (1 : Int32))), (3, .int x13), (0, .ref pL0), (1, .int xL1)]) rfl ?_
          refine r_goto (dc_X5_findMissing 61 rfl) (tgt := 36) (by decide) ?_
          refine r_pick [2, 3, 0] (lo' := [(0, .ref pL0), (1, .int xL1), (2, .int (xL2 + (1 : Int32)))]) rfl ?_
          exact ih _ _ h
        · rw [if_pos c0] at h
          refine r_aload_n (dc_X5_findMissing 50 rfl) rfl rfl ?_
          obtain ⟨p21, e0, h⟩ := Option.bind_eq_some_iff.mp h
          refine r_getR (dc_X5_findMissing 51 rfl) fl_RX5_36 e0 ?_
          refine r_iload_n (dc_X5_findMissing 52 rfl) rfl rfl ?_
          refine r_aload_n (dc_X5_findMissing 53 rfl) rfl rfl ?_
          obtain ⟨p22, e0, h⟩ := Option.bind_eq_some_iff.mp h
          refine r_getR (dc_X5_findMissing 54 rfl) fl_RX5_40 e0 ?_
          obtain ⟨p23, e0, h⟩ := Option.bind_eq_some_iff.mp h
          refine r_getR (dc_X5_findMissing 55 rfl) fl_RX5_50 e0 ?_
          obtain ⟨p24, e0, h⟩ := Option.bind_eq_some_iff.mp h
          refine r_getR (dc_X5_findMissing 56 rfl) fl_RX5_76 e0 ?_
          refine r_iload_n (dc_X5_findMissing 57 rfl) rfl rfl ?_
          obtain ⟨x25, e0, h⟩ := Option.bind_eq_some_iff.mp h
          refine r_iald (dc_X5_findMissing 58 rfl) e0 ?_
          obtain ⟨s26, e0, h⟩ := Option.bind_eq_some_iff.mp h
          refine r_iast (dc_X5_findMissing 59 rfl) e0 ?_
          refine r_iinc (dc_X5_findMissing 60 rfl) rfl (kinc_1 _) (by decide) (lo' := [(2, .int (xL2 + (1 : Int32))), (3, .int x13), (0, .ref pL0), (1, .int xL1)]) rfl ?_
          refine r_goto (dc_X5_findMissing 61 rfl) (tgt := 36) (by decide) ?_
          refine r_pick [2, 3, 0] (lo' := [(0, .ref pL0), (1, .int xL1), (2, .int (xL2 + (1 : Int32)))]) rfl ?_
          exact ih _ _ h
theorem l_X5_findMissing_L23 {G : Gx} {d : Nat} (hl : G.1.stackTraces = false) (hd : 1 ≤ d) {pL0 : Nat} {r : Sto} {k125 : Sto → Option Sto}
    (hk125 : ∀ (sL : Sto), k125 sL = some r → J G d m_X5_findMissing 125 [] [] sL (.inl none) r)
  : ∀ (f : Nat) (xL1 : Int32) (sL : Sto), F_X5_findMissing_L23 pL0 f xL1 sL k125 = some r → J G d m_X5_findMissing 23 [(0, .ref pL0), (1, .int xL1)] [] sL (.inl none) r := by
  intro f
  induction f with
  | zero => intro xL1 sL h; rw [F_X5_findMissing_L23] at h; cases h
  | succ f ih =>
    intro xL1 sL h
    rw [F_X5_findMissing_L23] at h
    refine r_iload_n (dc_X5_findMissing 14 rfl) rfl rfl ?_
    refine r_aload_n (dc_X5_findMissing 15 rfl) rfl rfl ?_
    obtain ⟨p4, e0, h⟩ := Option.bind_eq_some_iff.mp h
    refine r_getR (dc_X5_findMissing 16 rfl) fl_RX5_40 e0 ?_
    obtain ⟨x5, e0, h⟩ := Option.bind_eq_some_iff.mp h
    refine r_getI (dc_X5_findMissing 17 rfl) fl_RX5_45 e0 ?_
    refine r_icmp_ge (dc_X5_findMissing 18 rfl) (tgt := 125) (by decide) (fun c0 => ?_) (fun c0 => ?_)
    · rw [if_pos c0] at h
      refine r_pick [] (lo' := []) rfl ?_
      exact hk125 _ h
    · rw [if_neg c0] at h
      refine r_iconst (dc_X5_findMissing 19 rfl) kiconst_0 ?_
      refine r_istore_n (dc_X5_findMissing 20 rfl) rfl (by decide) (lo' := [(2, .int (0 : Int32)), (0, .ref pL0), (1, .int xL1)]) rfl ?_
      refine r_pick [1, 2, 0] (lo' := [(0, .ref pL0), (1, .int xL1), (2, .int (0 : Int32))]) rfl ?_
      refine l_X5_findMissing_L36 hl hd (hk119 := ?_) fu _ _ h
      · intro s27 h
        refine r_iinc (dc_X5_findMissing 62 rfl) rfl (kinc_1 _) (by decide) (lo' := [(1, .int (xL1 + (1 : Int32))), (0, .ref pL0)]) rfl ?_
        refine r_goto (dc_X5_findMissing 63 rfl) (tgt := 23) (by decide) ?_
        refine r_pick [1, 0] (lo' := [(0, .ref pL0), (1, .int (xL1 + (1 : Int32)))]) rfl ?_
        exact ih _ _ h
theorem t_X5_findMissing {G : Gx} {d : Nat} (hl : G.1.stackTraces = false) (hd : 1 ≤ d) {σ : Sto} {a0 : Nat} {r : Sto} (h : F_X5_findMissing σ a0 = some r) : Mi G d m_X5_findMissing 5 a0 [] σ (.inl none) r := by
  rw [F_X5_findMissing] at h
  obtain ⟨hg, h⟩ := chk_some h
  refine ⟨J.toMt (lo := [(0, .ref a0)]) pn_RX5 rfl hl (Nat.le_of_ble_eq_true rfl) rfl ?_, hg⟩
  refine r_iconst (dc_X5_findMissing 0 rfl) kiconst_0 ?_
  refine r_istore_n (dc_X5_findMissing 1 rfl) rfl (by decide) (lo' := [(1, .int (0 : Int32)), (0, .ref a0)]) rfl ?_
  refine r_pick [1, 0] (lo' := [(0, .ref a0), (1, .int (0 : Int32))]) rfl ?_
  refine l_X5_findMissing_L2 hl hd (hk21 := ?_) fu _ _ h
  · intro s3 h
    refine r_iconst (dc_X5_findMissing 12 rfl) kiconst_0 ?_
    refine r_istore_n (dc_X5_findMissing 13 rfl) rfl (by decide) (lo' := [(1, .int (0 : Int32)), (0, .ref a0)]) rfl ?_
    refine r_pick [1, 0] (lo' := [(0, .ref a0), (1, .int (0 : Int32))]) rfl ?_
    refine l_X5_findMissing_L23 hl hd (hk125 := ?_) fu _ _ h
    · intro s28 h
      cases h
      exact r_vreturn (dc_X5_findMissing 64 rfl) rfl
theorem t_X5_isOverstated {G : Gx} {d : Nat} (hl : G.1.stackTraces = false) (hd : 0 ≤ d) {σ : Sto} {a0 : Nat} {xa1 : Int32} {xa2 : Int32} {r : Int32} (h : F_X5_isOverstated σ a0 xa1 xa2 = some r) : Mi G d m_X5_isOverstated 5 a0 [.int xa1, .int xa2] σ (.inl (some (.int r))) σ := by
  rw [F_X5_isOverstated] at h
  obtain ⟨hg, h⟩ := chk_some h
  refine ⟨J.toMt (lo := [(0, .ref a0), (1, .int xa1), (2, .int xa2)]) pn_RX5 rfl hl (Nat.le_of_ble_eq_true rfl) rfl ?_, hg⟩
  refine r_aload_n (dc_X5_isOverstated 0 rfl) rfl rfl ?_
  obtain ⟨p1, e0, h⟩ := Option.bind_eq_some_iff.mp h
  refine r_getR (dc_X5_isOverstated 1 rfl) fl_RX5_36 e0 ?_
  refine r_iload_n (dc_X5_isOverstated 2 rfl) rfl rfl ?_
  obtain ⟨x2, e0, h⟩ := Option.bind_eq_some_iff.mp h
  refine r_iald (dc_X5_isOverstated 3 rfl) e0 ?_
  refine r_if_le (dc_X5_isOverstated 4 rfl) (tgt := 36) (by decide) (fun c0 => ?_) (fun c0 => ?_)
  · rw [if_pos c0] at h
    refine r_iconst (dc_X5_isOverstated 20 rfl) kiconst_0 ?_
    cases h
    exact r_zreturn (dc_X5_isOverstated 21 rfl) rfl (Or.inl rfl)
  · rw [if_neg c0] at h
    refine r_aload_n (dc_X5_isOverstated 5 rfl) rfl rfl ?_
    obtain ⟨p3, e0, h⟩ := Option.bind_eq_some_iff.mp h
    refine r_getR (dc_X5_isOverstated 6 rfl) fl_RX5_40 e0 ?_
    obtain ⟨p4, e0, h⟩ := Option.bind_eq_some_iff.mp h
    refine r_getR (dc_X5_isOverstated 7 rfl) fl_RX5_66 e0 ?_
    refine r_iload_n (dc_X5_isOverstated 8 rfl) rfl rfl ?_
    obtain ⟨p5, e0, h⟩ := Option.bind_eq_some_iff.mp h
    refine r_aaldR (dc_X5_isOverstated 9 rfl) (kd := 4) rfl e0 ?_
    obtain ⟨p6, e0, h⟩ := Option.bind_eq_some_iff.mp h
    refine r_getR (dc_X5_isOverstated 10 rfl) fl_RX5_79 e0 ?_
    refine r_iload_n (dc_X5_isOverstated 11 rfl) rfl rfl ?_
    obtain ⟨x7, e0, h⟩ := Option.bind_eq_some_iff.mp h
    refine r_iald (dc_X5_isOverstated 12 rfl) e0 ?_
    refine r_aload_n (dc_X5_isOverstated 13 rfl) rfl rfl ?_
    obtain ⟨p8, e0, h⟩ := Option.bind_eq_some_iff.mp h
    refine r_getR (dc_X5_isOverstated 14 rfl) fl_RX5_36 e0 ?_
    refine r_iload_n (dc_X5_isOverstated 15 rfl) rfl rfl ?_
    obtain ⟨x9, e0, h⟩ := Option.bind_eq_some_iff.mp h
    refine r_iald (dc_X5_isOverstated 16 rfl) e0 ?_
    refine r_icmp_lt (dc_X5_isOverstated 17 rfl) (tgt := 36) (by decide) (fun c0 => ?_) (fun c0 => ?_)
    · rw [if_pos c0] at h
      refine r_iconst (dc_X5_isOverstated 20 rfl) kiconst_0 ?_
      cases h
      exact r_zreturn (dc_X5_isOverstated 21 rfl) rfl (Or.inl rfl)
    · rw [if_neg c0] at h
      refine r_iconst (dc_X5_isOverstated 18 rfl) kiconst_1 ?_
      refine r_goto (dc_X5_isOverstated 19 rfl) (tgt := 37) (by decide) ?_
      cases h
      exact r_zreturn (dc_X5_isOverstated 21 rfl) rfl (Or.inr rfl)
theorem l_X5_countOverstated_L4 {G : Gx} {d : Nat} (hl : G.1.stackTraces = false) (hd : 1 ≤ d) {sL : Sto} {pL0 : Nat} {xL1 : Int32} {r : Int32} {k28 : Int32 → Option Int32}
    (hk28 : ∀ (xL2 : Int32), k28 xL2 = some r → J G d m_X5_countOverstated 28 [(2, .int xL2)] [] sL (.inl (some (.int r))) sL)
  : ∀ (f : Nat) (xL2 : Int32) (xL3 : Int32), F_X5_countOverstated_L4 sL pL0 xL1 f xL2 xL3 k28 = some r → J G d m_X5_countOverstated 4 [(0, .ref pL0), (1, .int xL1), (2, .int xL2), (3, .int xL3)] [] sL (.inl (some (.int r))) sL := by
  intro f
  induction f with
  | zero => intro xL2 xL3 h; rw [F_X5_countOverstated_L4] at h; cases h
  | succ f ih =>
    intro xL2 xL3 h
    rw [F_X5_countOverstated_L4] at h
    refine r_iload_n (dc_X5_countOverstated 4 rfl) rfl rfl ?_
    refine r_bipush (dc_X5_countOverstated 5 rfl) kbipush_25 ?_
    refine r_icmp_ge (dc_X5_countOverstated 6 rfl) (tgt := 28) (by decide) (fun c0 => ?_) (fun c0 => ?_)
    · rw [if_pos c0] at h
      refine r_pick [2] (lo' := [(2, .int xL2)]) rfl ?_
      exact hk28 _ h
    · rw [if_neg c0] at h
      refine r_aload_n (dc_X5_countOverstated 7 rfl) rfl rfl ?_
      refine r_iload_n (dc_X5_countOverstated 8 rfl) rfl rfl ?_
      refine r_iload_n (dc_X5_countOverstated 9 rfl) rfl rfl ?_
      obtain ⟨x1, e0, h⟩ := Option.bind_eq_some_iff.mp h
      refine r_callV (dc_X5_countOverstated 10 rfl) mv_X5_isOverstated ml_RX5_89 (As := [.int xL1, .int xL3]) (t_X5_isOverstated (d := d - 1) hl (by omega) e0) (by omega) rfl (Nat.le_of_ble_eq_true rfl) ?_
      refine r_if_eq (dc_X5_countOverstated 11 rfl) (tgt := 22) (by decide) (fun c0 => ?_) (fun c0 => ?_)
      · rw [if_pos c0] at h
        refine r_iinc (dc_X5_countOverstated 13 rfl) rfl (kinc_1 _) (by decide) (lo' := [(3, .int (xL3 + (1 : Int32))), (0, .ref pL0), (1, .int xL1), (2, .int xL2)]) rfl ?_
        refine r_goto (dc_X5_countOverstated 14 rfl) (tgt := 4) (by decide) ?_
        refine r_pick [1, 2, 3, 0] (lo' := [(0, .ref pL0), (1, .int xL1), (2, .int xL2), (3, .int (xL3 + (1 : Int32)))]) rfl ?_
        exact ih _ _ h
      · rw [if_neg c0] at h
        refine r_iinc (dc_X5_countOverstated 12 rfl) rfl (kinc_1 _) (by decide) (lo' := [(2, .int (xL2 + (1 : Int32))), (0, .ref pL0), (1, .int xL1), (3, .int xL3)]) rfl ?_
        refine r_iinc (dc_X5_countOverstated 13 rfl) rfl (kinc_1 _) (by decide) (lo' := [(3, .int (xL3 + (1 : Int32))), (2, .int (xL2 + (1 : Int32))), (0, .ref pL0), (1, .int xL1)]) rfl ?_
        refine r_goto (dc_X5_countOverstated 14 rfl) (tgt := 4) (by decide) ?_
        refine r_pick [2, 3, 1, 0] (lo' := [(0, .ref pL0), (1, .int xL1), (2, .int (xL2 + (1 : Int32))), (3, .int (xL3 + (1 : Int32)))]) rfl ?_
        exact ih _ _ h
theorem t_X5_countOverstated {G : Gx} {d : Nat} (hl : G.1.stackTraces = false) (hd : 1 ≤ d) {σ : Sto} {a0 : Nat} {xa1 : Int32} {r : Int32} (h : F_X5_countOverstated σ a0 xa1 = some r) : Mi G d m_X5_countOverstated 5 a0 [.int xa1] σ (.inl (some (.int r))) σ := by
  rw [F_X5_countOverstated] at h
  obtain ⟨hg, h⟩ := chk_some h
  refine ⟨J.toMt (lo := [(0, .ref a0), (1, .int xa1)]) pn_RX5 rfl hl (Nat.le_of_ble_eq_true rfl) rfl ?_, hg⟩
  refine r_iconst (dc_X5_countOverstated 0 rfl) kiconst_0 ?_
  refine r_istore_n (dc_X5_countOverstated 1 rfl) rfl (by decide) (lo' := [(2, .int (0 : Int32)), (0, .ref a0), (1, .int xa1)]) rfl ?_
  refine r_iconst (dc_X5_countOverstated 2 rfl) kiconst_0 ?_
  refine r_istore_n (dc_X5_countOverstated 3 rfl) rfl (by decide) (lo' := [(3, .int (0 : Int32)), (2, .int (0 : Int32)), (0, .ref a0), (1, .int xa1)]) rfl ?_
  refine r_pick [2, 3, 1, 0] (lo' := [(0, .ref a0), (1, .int xa1), (2, .int (0 : Int32)), (3, .int (0 : Int32))]) rfl ?_
  refine l_X5_countOverstated_L4 hl hd (hk28 := ?_) fu _ _ h
  · intro x2 h
    refine r_iload_n (dc_X5_countOverstated 15 rfl) rfl rfl ?_
    cases h
    exact r_ireturn (dc_X5_countOverstated 16 rfl) rfl
theorem t_X5_overstatedAt {G : Gx} {d : Nat} (hl : G.1.stackTraces = false) (hd : 2 ≤ d) {σ : Sto} {a0 : Nat} {xa1 : Int32} {r : (Int32 × Sto)} (h : F_X5_overstatedAt σ a0 xa1 = some r) : Mi G d m_X5_overstatedAt 5 a0 [.int xa1] σ (.inl (some (.int r.1))) r.2 := by
  rw [F_X5_overstatedAt] at h
  obtain ⟨hg, h⟩ := chk_some h
  refine ⟨J.toMt (lo := [(0, .ref a0), (1, .int xa1)]) pn_RX5 rfl hl (Nat.le_of_ble_eq_true rfl) rfl ?_, hg⟩
  refine r_aload_n (dc_X5_overstatedAt 0 rfl) rfl rfl ?_
  obtain ⟨s1, e0, h⟩ := Option.bind_eq_some_iff.mp h
  refine r_callV (dc_X5_overstatedAt 1 rfl) mv_X5_findMissing ml_RX5_82 (As := []) (t_X5_findMissing (d := d - 1) hl (by omega) e0) (by omega) rfl (Nat.le_of_ble_eq_true rfl) ?_
  refine r_aload_n (dc_X5_overstatedAt 2 rfl) rfl rfl ?_
  refine r_iload_n (dc_X5_overstatedAt 3 rfl) rfl rfl ?_
  obtain ⟨x2, e0, h⟩ := Option.bind_eq_some_iff.mp h
  refine r_callV (dc_X5_overstatedAt 4 rfl) mv_X5_countOverstated ml_RX5_85 (As := [.int xa1]) (t_X5_countOverstated (d := d - 1) hl (by omega) e0) (by omega) rfl (Nat.le_of_ble_eq_true rfl) ?_
  cases h
  exact r_ireturn (dc_X5_overstatedAt 5 rfl) rfl
theorem l_X5_overstatedCells_L8 {G : Gx} {d : Nat} (hl : G.1.stackTraces = false) (hd : 2 ≤ d) {sL : Sto} {pL0 : Nat} {r : (Int32 × Sto)} {k33 : Int32 → Option (Int32 × Sto)}
    (hk33 : ∀ (xL1 : Int32), k33 xL1 = some r → J G d m_X5_overstatedCells 33 [(1, .int xL1)] [] sL (.inl (some (.int r.1))) r.2)
  : ∀ (f : Nat) (xL1 : Int32) (xL2 : Int32), F_X5_overstatedCells_L8 sL pL0 f xL1 xL2 k33 = some r → J G d m_X5_overstatedCells 8 [(0, .ref pL0), (1, .int xL1), (2, .int xL2)] [] sL (.inl (some (.int r.1))) r.2 := by
  intro f
  induction f with
  | zero => intro xL1 xL2 h; rw [F_X5_overstatedCells_L8] at h; cases h
  | succ f ih =>
    intro xL1 xL2 h
    rw [F_X5_overstatedCells_L8] at h
    refine r_iload_n (dc_X5_overstatedCells 6 rfl) rfl rfl ?_
    refine r_aload_n (dc_X5_overstatedCells 7 rfl) rfl rfl ?_
    obtain ⟨p2, e0, h⟩ := Option.bind_eq_some_iff.mp h
    refine r_getR (dc_X5_overstatedCells 8 rfl) fl_RX5_40 e0 ?_
    obtain ⟨x3, e0, h⟩ := Option.bind_eq_some_iff.mp h
    refine r_getI (dc_X5_overstatedCells 9 rfl) fl_RX5_45 e0 ?_
    refine r_icmp_ge (dc_X5_overstatedCells 10 rfl) (tgt := 33) (by decide) (fun c0 => ?_) (fun c0 => ?_)
    · rw [if_pos c0] at h
      refine r_pick [1] (lo' := [(1, .int xL1)]) rfl ?_
      exact hk33 _ h
    · rw [if_neg c0] at h
      refine r_iload_n (dc_X5_overstatedCells 11 rfl) rfl rfl ?_
      refine r_aload_n (dc_X5_overstatedCells 12 rfl) rfl rfl ?_
      refine r_iload_n (dc_X5_overstatedCells 13 rfl) rfl rfl ?_
      obtain ⟨x4, e0, h⟩ := Option.bind_eq_some_iff.mp h
      refine r_callV (dc_X5_overstatedCells 14 rfl) mv_X5_countOverstated ml_RX5_85 (As := [.int xL2]) (t_X5_countOverstated (d := d - 1) hl (by omega) e0) (by omega) rfl (Nat.le_of_ble_eq_true rfl) ?_
      refine r_iadd (dc_X5_overstatedCells 15 rfl) ?_
      refine r_istore_n (dc_X5_overstatedCells 16 rfl) rfl (by decide) (lo' := [(1, .int (xL1 + x4)), (0, .ref pL0), (2, .int xL2)]) rfl ?_
      refine r_iinc (dc_X5_overstatedCells 17 rfl) rfl (kinc_1 _) (by decide) (lo' := [(2, .int (xL2 + (1 : Int32))), (1, .int (xL1 + x4)), (0, .ref pL0)]) rfl ?_
      refine r_goto (dc_X5_overstatedCells 18 rfl) (tgt := 8) (by decide) ?_
      refine r_pick [2, 1, 0] (lo' := [(0, .ref pL0), (1, .int (xL1 + x4)), (2, .int (xL2 + (1 : Int32)))]) rfl ?_
      exact ih _ _ h
theorem t_X5_overstatedCells {G : Gx} {d : Nat} (hl : G.1.stackTraces = false) (hd : 2 ≤ d) {σ : Sto} {a0 : Nat} {r : (Int32 × Sto)} (h : F_X5_overstatedCells σ a0 = some r) : Mi G d m_X5_overstatedCells 5 a0 [] σ (.inl (some (.int r.1))) r.2 := by
  rw [F_X5_overstatedCells] at h
  obtain ⟨hg, h⟩ := chk_some h
  refine ⟨J.toMt (lo := [(0, .ref a0)]) pn_RX5 rfl hl (Nat.le_of_ble_eq_true rfl) rfl ?_, hg⟩
  refine r_aload_n (dc_X5_overstatedCells 0 rfl) rfl rfl ?_
  obtain ⟨s1, e0, h⟩ := Option.bind_eq_some_iff.mp h
  refine r_callV (dc_X5_overstatedCells 1 rfl) mv_X5_findMissing ml_RX5_82 (As := []) (t_X5_findMissing (d := d - 1) hl (by omega) e0) (by omega) rfl (Nat.le_of_ble_eq_true rfl) ?_
  refine r_iconst (dc_X5_overstatedCells 2 rfl) kiconst_0 ?_
  refine r_istore_n (dc_X5_overstatedCells 3 rfl) rfl (by decide) (lo' := [(1, .int (0 : Int32)), (0, .ref a0)]) rfl ?_
  refine r_iconst (dc_X5_overstatedCells 4 rfl) kiconst_0 ?_
  refine r_istore_n (dc_X5_overstatedCells 5 rfl) rfl (by decide) (lo' := [(2, .int (0 : Int32)), (1, .int (0 : Int32)), (0, .ref a0)]) rfl ?_
  refine r_pick [2, 1, 0] (lo' := [(0, .ref a0), (1, .int (0 : Int32)), (2, .int (0 : Int32))]) rfl ?_
  refine l_X5_overstatedCells_L8 hl hd (hk33 := ?_) fu _ _ h
  · intro x5 h
    refine r_iload_n (dc_X5_overstatedCells 19 rfl) rfl rfl ?_
    cases h
    exact r_ireturn (dc_X5_overstatedCells 20 rfl) rfl
