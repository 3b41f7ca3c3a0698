theorem l_X6_clear_L21 {G : Gx} {d : Nat} (hl : G.1.stackTraces = false) (hd : 1 ≤ d) {pL0 : Nat} {r : Sto} {k40 : Sto → Option Sto}
    (hk40 : ∀ (sL : Sto), k40 sL = some r → J G d m_X6_clear 40 [] [] sL (.inl none) r)
  : ∀ (f : Nat) (xL1 : Int32) (sL : Sto), F_X6_clear_L21 pL0 f xL1 sL k40 = some r → J G d m_X6_clear 21 [(0, .ref pL0), (1, .int xL1)] [] sL (.inl none) r := by
  intro f
  induction f with
  | zero => intro xL1 sL h; rw [F_X6_clear_L21] at h; cases h
  | succ f ih =>
    intro xL1 sL h
    rw [F_X6_clear_L21] at h
    refine r_iload_n (dc_X6_clear 11 rfl) rfl rfl ?_
    refine r_bipush (dc_X6_clear 12 rfl) kbipush_25 ?_
    refine r_icmp_ge (dc_X6_clear 13 rfl) (tgt := 40) (by decide) (fun c0 => ?_) (fun c0 => ?_)
    · rw [if_pos c0] at h
      refine r_pick [] (lo' := []) rfl ?_
      exact hk40 _ h
    · rw [if_neg c0] at h
      refine r_aload_n (dc_X6_clear 14 rfl) rfl rfl ?_
      obtain ⟨p6, e0, h⟩ := Option.bind_eq_some_iff.mp h
      refine r_getR (dc_X6_clear 15 rfl) fl_RX6_25 e0 ?_
      refine r_iload_n (dc_X6_clear 16 rfl) rfl rfl ?_
      refine r_iconst (dc_X6_clear 17 rfl) kiconst_0 ?_
      obtain ⟨s7, e0, h⟩ := Option.bind_eq_some_iff.mp h
      refine r_iast (dc_X6_clear 18 rfl) e0 ?_
      refine r_iinc (dc_X6_clear 19 rfl) rfl (kinc_1 _) (by decide) (lo' := [(1, .int (xL1 + (1 : Int32))), (0, .ref pL0)]) rfl ?_
      refine r_goto (dc_X6_clear 20 rfl) (tgt := 21) (by decide) ?_
      refine r_pick [1, 0] (lo' := [(0, .ref pL0), (1, .int (xL1 + (1 : Int32)))]) rfl ?_
      exact ih _ _ h
theorem t_X6_clear {G : Gx} {d : Nat} (hl : G.1.stackTraces = false) (hd : 1 ≤ d) {σ : Sto} {a0 : Nat} {r : Sto} (h : F_X6_clear σ a0 = some r) : Mi G d m_X6_clear 6 a0 [] σ (.inl none) r := by
  rw [F_X6_clear] at h
  obtain ⟨hg, h⟩ := chk_some h
  refine ⟨J.toMt (lo := [(0, .ref a0)]) pn_RX6 rfl hl (Nat.le_of_ble_eq_true rfl) rfl ?_, hg⟩
  refine r_aload_n (dc_X6_clear 0 rfl) rfl rfl ?_
  obtain ⟨p1, e0, h⟩ := Option.bind_eq_some_iff.mp h
  refine r_getR (dc_X6_clear 1 rfl) fl_RX6_12 e0 ?_
  obtain ⟨s2, e0, h⟩ := Option.bind_eq_some_iff.mp h
  refine r_callV (dc_X6_clear 2 rfl) mv_X1_clear ml_RX6_34 (As := []) (t_X1_clear (d := d - 1) hl (by omega) e0) (by omega) rfl (Nat.le_of_ble_eq_true rfl) ?_
  refine r_aload_n (dc_X6_clear 3 rfl) rfl rfl ?_
  obtain ⟨p3, e0, h⟩ := Option.bind_eq_some_iff.mp h
  refine r_getR (dc_X6_clear 4 rfl) fl_RX6_18 e0 ?_
  obtain ⟨s4, e0, h⟩ := Option.bind_eq_some_iff.mp h
  refine r_callV (dc_X6_clear 5 rfl) mv_X1_clear ml_RX6_34 (As := []) (t_X1_clear (d := d - 1) hl (by omega) e0) (by omega) rfl (Nat.le_of_ble_eq_true rfl) ?_
  refine r_aload_n (dc_X6_clear 6 rfl) rfl rfl ?_
  refine r_iconst (dc_X6_clear 7 rfl) kiconst_0 ?_
  obtain ⟨s5, e0, h⟩ := Option.bind_eq_some_iff.mp h
  refine r_put (dc_X6_clear 8 rfl) pl_RX6_37 rfl e0 ?_
  refine r_iconst (dc_X6_clear 9 rfl) kiconst_0 ?_
  refine r_istore_n (dc_X6_clear 10 rfl) rfl (by decide) (lo' := [(1, .int (0 : Int32)), (0, .ref a0)]) rfl ?_
  refine r_pick [1, 0] (lo' := [(0, .ref a0), (1, .int (0 : Int32))]) rfl ?_
  refine l_X6_clear_L21 hl hd (hk40 := ?_) fu _ _ h
  · intro s8 h
    cases h
    exact r_vreturn (dc_X6_clear 21 rfl) rfl
theorem l_X6_sitesThatKnow_L6 {G : Gx} {d : Nat} (hl : G.1.stackTraces = false) (hd : 1 ≤ d) {sL : Sto} {pL0 : Nat} {pL1 : Nat} {xL2 : Int32} {xL3 : Int32} {r : Int32} {k32 : Int32 → Option Int32}
    (hk32 : ∀ (xL4 : Int32), k32 xL4 = some r → J G d m_X6_sitesThatKnow 32 [(4, .int xL4)] [] sL (.inl (some (.int r))) sL)
  : ∀ (f : Nat) (xL4 : Int32) (xL5 : Int32), F_X6_sitesThatKnow_L6 sL pL0 pL1 xL2 xL3 f xL4 xL5 k32 = some r → J G d m_X6_sitesThatKnow 6 [(0, .ref pL0), (1, .ref pL1), (2, .int xL2), (3, .int xL3), (4, .int xL4), (5, .int xL5)] [] sL (.inl (some (.int r))) sL := by
  intro f
  induction f with
  | zero => intro xL4 xL5 h; rw [F_X6_sitesThatKnow_L6] at h; cases h
  | succ f ih =>
    intro xL4 xL5 h
    rw [F_X6_sitesThatKnow_L6] at h
    refine r_iload (dc_X6_sitesThatKnow 4 rfl) rfl ?_
    refine r_iload_n (dc_X6_sitesThatKnow 5 rfl) rfl rfl ?_
    refine r_icmp_ge (dc_X6_sitesThatKnow 6 rfl) (tgt := 32) (by decide) (fun c0 => ?_) (fun c0 => ?_)
    · rw [if_pos c0] at h
      refine r_pick [4] (lo' := [(4, .int xL4)]) rfl ?_
      exact hk32 _ h
    · rw [if_neg c0] at h
      refine r_aload_n (dc_X6_sitesThatKnow 7 rfl) rfl rfl ?_
      refine r_aload_n (dc_X6_sitesThatKnow 8 rfl) rfl rfl ?_
      refine r_iload (dc_X6_sitesThatKnow 9 rfl) rfl ?_
      refine r_iload_n (dc_X6_sitesThatKnow 10 rfl) rfl rfl ?_
      obtain ⟨x1, e0, h⟩ := Option.bind_eq_some_iff.mp h
      refine r_callV (dc_X6_sitesThatKnow 11 rfl) mv_X6_isKnown ml_RX6_63 (As := [.ref pL1, .int xL5, .int xL2]) (t_X6_isKnown (d := d - 1) hl (by omega) e0) (by omega) rfl (Nat.le_of_ble_eq_true rfl) ?_
      refine r_if_eq (dc_X6_sitesThatKnow 12 rfl) (tgt := 26) (by decide) (fun c0 => ?_) (fun c0 => ?_)
      · rw [if_pos c0] at h
        refine r_iinc (dc_X6_sitesThatKnow 14 rfl) rfl (kinc_1 _) (by decide) (lo' := [(5, .int (xL5 + (1 : Int32))), (0, .ref pL0), (1, .ref pL1), (2, .int xL2), (3, .int xL3), (4, .int xL4)]) rfl ?_
        refine r_goto (dc_X6_sitesThatKnow 15 rfl) (tgt := 6) (by decide) ?_
        refine r_pick [1, 2, 3, 4, 5, 0] (lo' := [(0, .ref pL0), (1, .ref pL1), (2, .int xL2), (3, .int xL3), (4, .int xL4), (5, .int (xL5 + (1 : Int32)))]) rfl ?_
        exact ih _ _ h
      · rw [if_neg c0] at h
        refine r_iinc (dc_X6_sitesThatKnow 13 rfl) rfl (kinc_1 _) (by decide) (lo' := [(4, .int (xL4 + (1 : Int32))), (0, .ref pL0), (1, .ref pL1), (2, .int xL2), (3, .int xL3), (5, .int xL5)]) rfl ?_
        refine r_iinc (dc_X6_sitesThatKnow 14 rfl) rfl (kinc_1 _) (by decide) (lo' := [(5, .int (xL5 + (1 : Int32))), (4, .int (xL4 + (1 : Int32))), (0, .ref pL0), (1, .ref pL1), (2, .int xL2), (3, .int xL3)]) rfl ?_
        refine r_goto (dc_X6_sitesThatKnow 15 rfl) (tgt := 6) (by decide) ?_
        refine r_pick [2, 3, 4, 5, 1, 0] (lo' := [(0, .ref pL0), (1, .ref pL1), (2, .int xL2), (3, .int xL3), (4, .int (xL4 + (1 : Int32))), (5, .int (xL5 + (1 : Int32)))]) rfl ?_
        exact ih _ _ h
theorem t_X6_sitesThatKnow {G : Gx} {d : Nat} (hl : G.1.stackTraces = false) (hd : 1 ≤ d) {σ : Sto} {a0 : Nat} {pa1 : Nat} {xa2 : Int32} {xa3 : Int32} {r : Int32} (h : F_X6_sitesThatKnow σ a0 pa1 xa2 xa3 = some r) : Mi G d m_X6_sitesThatKnow 6 a0 [.ref pa1, .int xa2, .int xa3] σ (.inl (some (.int r))) σ := by
  rw [F_X6_sitesThatKnow] at h
  obtain ⟨hg, h⟩ := chk_some h
  refine ⟨J.toMt (lo := [(0, .ref a0), (1, .ref pa1), (2, .int xa2), (3, .int xa3)]) pn_RX6 rfl hl (Nat.le_of_ble_eq_true rfl) rfl ?_, hg⟩
  refine r_iconst (dc_X6_sitesThatKnow 0 rfl) kiconst_0 ?_
  refine r_istore (dc_X6_sitesThatKnow 1 rfl) (by decide) (lo' := [(4, .int (0 : Int32)), (0, .ref a0), (1, .ref pa1), (2, .int xa2), (3, .int xa3)]) rfl ?_
  refine r_iconst (dc_X6_sitesThatKnow 2 rfl) kiconst_0 ?_
  refine r_istore (dc_X6_sitesThatKnow 3 rfl) (by decide) (lo' := [(5, .int (0 : Int32)), (4, .int (0 : Int32)), (0, .ref a0), (1, .ref pa1), (2, .int xa2), (3, .int xa3)]) rfl ?_
  refine r_pick [2, 3, 4, 5, 1, 0] (lo' := [(0, .ref a0), (1, .ref pa1), (2, .int xa2), (3, .int xa3), (4, .int (0 : Int32)), (5, .int (0 : Int32))]) rfl ?_
  refine l_X6_sitesThatKnow_L6 hl hd (hk32 := ?_) fu _ _ h
  · intro x2 h
    refine r_iload (dc_X6_sitesThatKnow 16 rfl) rfl ?_
    cases h
    exact r_ireturn (dc_X6_sitesThatKnow 17 rfl) rfl
theorem l_X6_logHolds_L2 {G : Gx} {d : Nat} (hl : G.1.stackTraces = false) (hd : 0 ≤ d) {sL : Sto} {pL0 : Nat} {xL1 : Int32} {r : Int32} {k28 : Option Int32}
    (hk28 : k28  = some r → J G d m_X6_logHolds 28 [] [] sL (.inl (some (.int r))) sL)
  : ∀ (f : Nat) (xL2 : Int32), F_X6_logHolds_L2 sL pL0 xL1 f xL2 k28 = some r → J G d m_X6_logHolds 2 [(0, .ref pL0), (1, .int xL1), (2, .int xL2)] [] sL (.inl (some (.int r))) sL := by
  intro f
  induction f with
  | zero => intro xL2 h; rw [F_X6_logHolds_L2] at h; cases h
  | succ f ih =>
    intro xL2 h
    rw [F_X6_logHolds_L2] at h
    refine r_iload_n (dc_X6_logHolds 2 rfl) rfl rfl ?_
    refine r_aload_n (dc_X6_logHolds 3 rfl) rfl rfl ?_
    obtain ⟨x1, e0, h⟩ := Option.bind_eq_some_iff.mp h
    refine r_getI (dc_X6_logHolds 4 rfl) fl_RX6_37 e0 ?_
    refine r_icmp_ge (dc_X6_logHolds 5 rfl) (tgt := 28) (by decide) (fun c0 => ?_) (fun c0 => ?_)
    · rw [if_pos c0] at h
      refine r_pick [] (lo' := []) rfl ?_
      exact hk28  h
    · rw [if_neg c0] at h
      refine r_aload_n (dc_X6_logHolds 6 rfl) rfl rfl ?_
      obtain ⟨p2, e0, h⟩ := Option.bind_eq_some_iff.mp h
      refine r_getR (dc_X6_logHolds 7 rfl) fl_RX6_21 e0 ?_
      refine r_iload_n (dc_X6_logHolds 8 rfl) rfl rfl ?_
      obtain ⟨x3, e0, h⟩ := Option.bind_eq_some_iff.mp h
      refine r_iald (dc_X6_logHolds 9 rfl) e0 ?_
      refine r_iload_n (dc_X6_logHolds 10 rfl) rfl rfl ?_
      refine r_icmp_ne (dc_X6_logHolds 11 rfl) (tgt := 22) (by decide) (fun c0 => ?_) (fun c0 => ?_)
      · rw [if_neg c0] at h
        refine r_iinc (dc_X6_logHolds 14 rfl) rfl (kinc_1 _) (by decide) (lo' := [(2, .int (xL2 + (1 : Int32))), (0, .ref pL0), (1, .int xL1)]) rfl ?_
        refine r_goto (dc_X6_logHolds 15 rfl) (tgt := 2) (by decide) ?_
        refine r_pick [1, 2, 0] (lo' := [(0, .ref pL0), (1, .int xL1), (2, .int (xL2 + (1 : Int32)))]) rfl ?_
        exact ih _ h
      · rw [if_pos c0] at h
        refine r_iconst (dc_X6_logHolds 12 rfl) kiconst_1 ?_
        cases h
        exact r_zreturn (dc_X6_logHolds 13 rfl) rfl (Or.inr rfl)
theorem t_X6_logHolds {G : Gx} {d : Nat} (hl : G.1.stackTraces = false) (hd : 0 ≤ d) {σ : Sto} {a0 : Nat} {xa1 : Int32} {r : Int32} (h : F_X6_logHolds σ a0 xa1 = some r) : Mi G d m_X6_logHolds 6 a0 [.int xa1] σ (.inl (some (.int r))) σ := by
  rw [F_X6_logHolds] at h
  obtain ⟨hg, h⟩ := chk_some h
  refine ⟨J.toMt (lo := [(0, .ref a0), (1, .int xa1)]) pn_RX6 rfl hl (Nat.le_of_ble_eq_true rfl) rfl ?_, hg⟩
  refine r_iconst (dc_X6_logHolds 0 rfl) kiconst_0 ?_
  refine r_istore_n (dc_X6_logHolds 1 rfl) rfl (by decide) (lo' := [(2, .int (0 : Int32)), (0, .ref a0), (1, .int xa1)]) rfl ?_
  refine r_pick [1, 2, 0] (lo' := [(0, .ref a0), (1, .int xa1), (2, .int (0 : Int32))]) rfl ?_
  refine l_X6_logHolds_L2 hl hd (hk28 := ?_) fu _ h
  · intro h
    refine r_iconst (dc_X6_logHolds 16 rfl) kiconst_0 ?_
    cases h
    exact r_zreturn (dc_X6_logHolds 17 rfl) rfl (Or.inl rfl)
theorem t_X6_ownEvent {G : Gx} {d : Nat} (hl : G.1.stackTraces = false) (hd : 2 ≤ d) {σ : Sto} {a0 : Nat} {pa1 : Nat} {xa2 : Int32} {r : Sto} (h : F_X6_ownEvent σ a0 pa1 xa2 = some r) : Mi G d m_X6_ownEvent 6 a0 [.ref pa1, .int xa2] σ (.inl none) r := by
  rw [F_X6_ownEvent] at h
  obtain ⟨hg, h⟩ := chk_some h
  refine ⟨J.toMt (lo := [(0, .ref a0), (1, .ref pa1), (2, .int xa2)]) pn_RX6 rfl hl (Nat.le_of_ble_eq_true rfl) rfl ?_, hg⟩
  refine r_aload_n (dc_X6_ownEvent 0 rfl) rfl rfl ?_
  obtain ⟨p1, e0, h⟩ := Option.bind_eq_some_iff.mp h
  refine r_getR (dc_X6_ownEvent 1 rfl) fl_RX6_55 e0 ?_
  refine r_iload_n (dc_X6_ownEvent 2 rfl) rfl rfl ?_
  obtain ⟨x2, e0, h⟩ := Option.bind_eq_some_iff.mp h
  refine r_iald (dc_X6_ownEvent 3 rfl) e0 ?_
  refine r_istore_n (dc_X6_ownEvent 4 rfl) rfl (by decide) (lo' := [(3, .int x2), (0, .ref a0), (1, .ref pa1), (2, .int xa2)]) rfl ?_
  refine r_aload_n (dc_X6_ownEvent 5 rfl) rfl rfl ?_
  obtain ⟨p3, e0, h⟩ := Option.bind_eq_some_iff.mp h
  refine r_getR (dc_X6_ownEvent 6 rfl) fl_RX6_25 e0 ?_
  refine r_iload_n (dc_X6_ownEvent 7 rfl) rfl rfl ?_
  refine r_iload_n (dc_X6_ownEvent 8 rfl) rfl rfl ?_
  obtain ⟨x4, e0, h⟩ := Option.bind_eq_some_iff.mp h
  refine r_callSN (dc_X6_ownEvent 9 rfl) ms_X9_cell mn_RX6_67 (As := [.int x2, .int x2]) (t_X9_cell (d := d - 1) hl (by omega) e0) (by omega) rfl (Nat.le_of_ble_eq_true rfl) ?_
  refine r_aload_n (dc_X6_ownEvent 10 rfl) rfl rfl ?_
  obtain ⟨p5, e0, h⟩ := Option.bind_eq_some_iff.mp h
  refine r_getR (dc_X6_ownEvent 11 rfl) fl_RX6_60 e0 ?_
  refine r_iload_n (dc_X6_ownEvent 12 rfl) rfl rfl ?_
  obtain ⟨x6, e0, h⟩ := Option.bind_eq_some_iff.mp h
  refine r_iald (dc_X6_ownEvent 13 rfl) e0 ?_
  obtain ⟨s7, e0, h⟩ := Option.bind_eq_some_iff.mp h
  refine r_iast (dc_X6_ownEvent 14 rfl) e0 ?_
  refine r_aload_n (dc_X6_ownEvent 15 rfl) rfl rfl ?_
  refine r_iload_n (dc_X6_ownEvent 16 rfl) rfl rfl ?_
  refine r_aload_n (dc_X6_ownEvent 17 rfl) rfl rfl ?_
  obtain ⟨p8, e0, h⟩ := Option.bind_eq_some_iff.mp h
  refine r_getR (dc_X6_ownEvent 18 rfl) fl_RX6_71 e0 ?_
  refine r_iload_n (dc_X6_ownEvent 19 rfl) rfl rfl ?_
  obtain ⟨x9, e0, h⟩ := Option.bind_eq_some_iff.mp h
  refine r_iald (dc_X6_ownEvent 20 rfl) e0 ?_
  refine r_iload_n (dc_X6_ownEvent 21 rfl) rfl rfl ?_
  obtain ⟨s10, e0, h⟩ := Option.bind_eq_some_iff.mp h
  refine r_callV (dc_X6_ownEvent 22 rfl) mv_X6_gain ml_RX6_74 (As := [.int xa2, .int x9, .int x2]) (t_X6_gain (d := d - 1) hl (by omega) e0) (by omega) rfl (Nat.le_of_ble_eq_true rfl) ?_
  refine r_aload_n (dc_X6_ownEvent 23 rfl) rfl rfl ?_
  refine r_iload_n (dc_X6_ownEvent 24 rfl) rfl rfl ?_
  obtain ⟨s11, e0, h⟩ := Option.bind_eq_some_iff.mp h
  refine r_callV (dc_X6_ownEvent 25 rfl) mv_X6_appendToLog ml_RX6_78 (As := [.int xa2]) (t_X6_appendToLog (d := d - 1) hl (by omega) e0) (by omega) rfl (Nat.le_of_ble_eq_true rfl) ?_
  cases h
  exact r_vreturn (dc_X6_ownEvent 26 rfl) rfl
theorem t_X7_init {G : Gx} {d : Nat} (hl : G.1.stackTraces = false) (hd : 1 ≤ d) {σ : Sto} {a0 : Nat} {r : Sto} (h : F_X7_init σ a0 = some r) : Mt G d m_X7_init [Value.ref a0] σ (.inl none) r := by
  rw [F_X7_init] at h
  refine J.toMt (lo := [(0, .ref a0)]) pn_RX7 rfl hl (Nat.le_of_ble_eq_true rfl) rfl ?_
  refine r_aload_n (dc_X7_init 0 rfl) rfl rfl ?_
  refine r_objInit (dc_X7_init 1 rfl) ml_RX7_3 w_obj1 w_obj2 (by omega) (Nat.le_of_ble_eq_true rfl) ?_
  refine r_aload_n (dc_X7_init 2 rfl) rfl rfl ?_
  refine r_bipush (dc_X7_init 3 rfl) kbipush_32 ?_
  obtain ⟨p2, s1, ev, es, h⟩ := nw_some h
  refine r_newI (dc_X7_init 4 rfl) ac_int (by decide) (by decide +kernel) ?_
  rw [← ev, ← es]
  obtain ⟨s3, e0, h⟩ := Option.bind_eq_some_iff.mp h
  refine r_putX (dc_X7_init 5 rfl) pl_RX7_9 (Or.inr ⟨rfl, fun q hq => by cases hq; rfl⟩) rfl e0 ?_
  refine r_aload_n (dc_X7_init 6 rfl) rfl rfl ?_
  refine r_bipush (dc_X7_init 7 rfl) kbipush_32 ?_
  obtain ⟨p5, s4, ev, es, h⟩ := nw_some h
  refine r_newI (dc_X7_init 8 rfl) ac_int (by decide) (by decide +kernel) ?_
  rw [← ev, ← es]
  obtain ⟨s6, e0, h⟩ := Option.bind_eq_some_iff.mp h
  refine r_putX (dc_X7_init 9 rfl) pl_RX7_15 (Or.inr ⟨rfl, fun q hq => by cases hq; rfl⟩) rfl e0 ?_
  refine r_aload_n (dc_X7_init 10 rfl) rfl rfl ?_
  refine r_bipush (dc_X7_init 11 rfl) kbipush_32 ?_
  obtain ⟨p8, s7, ev, es, h⟩ := nw_some h
  refine r_newI (dc_X7_init 12 rfl) ac_int (by decide) (by decide +kernel) ?_
  rw [← ev, ← es]
  obtain ⟨s9, e0, h⟩ := Option.bind_eq_some_iff.mp h
  refine r_putX (dc_X7_init 13 rfl) pl_RX7_18 (Or.inr ⟨rfl, fun q hq => by cases hq; rfl⟩) rfl e0 ?_
  refine r_aload_n (dc_X7_init 14 rfl) rfl rfl ?_
  refine r_bipush (dc_X7_init 15 rfl) kbipush_32 ?_
  obtain ⟨p11, s10, ev, es, h⟩ := nw_some h
  refine r_newI (dc_X7_init 16 rfl) ac_int (by decide) (by decide +kernel) ?_
  rw [← ev, ← es]
  obtain ⟨s12, e0, h⟩ := Option.bind_eq_some_iff.mp h
  refine r_putX (dc_X7_init 17 rfl) pl_RX7_21 (Or.inr ⟨rfl, fun q hq => by cases hq; rfl⟩) rfl e0 ?_
  cases h
  exact r_vreturn (dc_X7_init 18 rfl) rfl
theorem t_X7_forget {G : Gx} {d : Nat} (hl : G.1.stackTraces = false) (hd : 0 ≤ d) {σ : Sto} {a0 : Nat} {r : Sto} (h : F_X7_forget σ a0 = some r) : Mi G d m_X7_forget 7 a0 [] σ (.inl none) r := by
  rw [F_X7_forget] at h
  obtain ⟨hg, h⟩ := chk_some h
  refine ⟨J.toMt (lo := [(0, .ref a0)]) pn_RX7 rfl hl (Nat.le_of_ble_eq_true rfl) rfl ?_, hg⟩
  refine r_aload_n (dc_X7_forget 0 rfl) rfl rfl ?_
  refine r_iconst (dc_X7_forget 1 rfl) kiconst_0 ?_
  obtain ⟨s1, e0, h⟩ := Option.bind_eq_some_iff.mp h
  refine r_put (dc_X7_forget 2 rfl) pl_RX7_24 rfl e0 ?_
  refine r_aload_n (dc_X7_forget 3 rfl) rfl rfl ?_
  refine r_iconst (dc_X7_forget 4 rfl) kiconst_0 ?_
  obtain ⟨s2, e0, h⟩ := Option.bind_eq_some_iff.mp h
  refine r_put (dc_X7_forget 5 rfl) pl_RX7_28 rfl e0 ?_
  cases h
  exact r_vreturn (dc_X7_forget 6 rfl) rfl
theorem t_X7_record {G : Gx} {d : Nat} (hl : G.1.stackTraces = false) (hd : 0 ≤ d) {σ : Sto} {a0 : Nat} {xa1 : Int32} {xa2 : Int32} {xa3 : Int32} {xa4 : Int32} {r : Sto} (h : F_X7_record σ a0 xa1 xa2 xa3 xa4 = some r) : Mi G d m_X7_record 7 a0 [.int xa1, .int xa2, .int xa3, .int xa4] σ (.inl none) r := by
  rw [F_X7_record] at h
  obtain ⟨hg, h⟩ := chk_some h
  refine ⟨J.toMt (lo := [(0, .ref a0), (1, .int xa1), (2, .int xa2), (3, .int xa3), (4, .int xa4)]) pn_RX7 rfl hl (Nat.le_of_ble_eq_true rfl) rfl ?_, hg⟩
  refine r_aload_n (dc_X7_record 0 rfl) rfl rfl ?_
  obtain ⟨p1, e0, h⟩ := Option.bind_eq_some_iff.mp h
  refine r_getR (dc_X7_record 1 rfl) fl_RX7_9 e0 ?_
  refine r_aload_n (dc_X7_record 2 rfl) rfl rfl ?_
  obtain ⟨x2, e0, h⟩ := Option.bind_eq_some_iff.mp h
  refine r_getI (dc_X7_record 3 rfl) fl_RX7_28 e0 ?_
  refine r_iload_n (dc_X7_record 4 rfl) rfl rfl ?_
  obtain ⟨s3, e0, h⟩ := Option.bind_eq_some_iff.mp h
  refine r_iast (dc_X7_record 5 rfl) e0 ?_
  refine r_aload_n (dc_X7_record 6 rfl) rfl rfl ?_
  obtain ⟨p4, e0, h⟩ := Option.bind_eq_some_iff.mp h
  refine r_getR (dc_X7_record 7 rfl) fl_RX7_15 e0 ?_
  refine r_aload_n (dc_X7_record 8 rfl) rfl rfl ?_
  obtain ⟨x5, e0, h⟩ := Option.bind_eq_some_iff.mp h
  refine r_getI (dc_X7_record 9 rfl) fl_RX7_28 e0 ?_
  refine r_iload_n (dc_X7_record 10 rfl) rfl rfl ?_
  obtain ⟨s6, e0, h⟩ := Option.bind_eq_some_iff.mp h
  refine r_iast (dc_X7_record 11 rfl) e0 ?_
  refine r_aload_n (dc_X7_record 12 rfl) rfl rfl ?_
  obtain ⟨p7, e0, h⟩ := Option.bind_eq_some_iff.mp h
  refine r_getR (dc_X7_record 13 rfl) fl_RX7_18 e0 ?_
  refine r_aload_n (dc_X7_record 14 rfl) rfl rfl ?_
  obtain ⟨x8, e0, h⟩ := Option.bind_eq_some_iff.mp h
  refine r_getI (dc_X7_record 15 rfl) fl_RX7_28 e0 ?_
  refine r_iload_n (dc_X7_record 16 rfl) rfl rfl ?_
  obtain ⟨s9, e0, h⟩ := Option.bind_eq_some_iff.mp h
  refine r_iast (dc_X7_record 17 rfl) e0 ?_
  refine r_aload_n (dc_X7_record 18 rfl) rfl rfl ?_
  obtain ⟨p10, e0, h⟩ := Option.bind_eq_some_iff.mp h
  refine r_getR (dc_X7_record 19 rfl) fl_RX7_21 e0 ?_
  refine r_aload_n (dc_X7_record 20 rfl) rfl rfl ?_
  obtain ⟨x11, e0, h⟩ := Option.bind_eq_some_iff.mp h
  refine r_getI (dc_X7_record 21 rfl) fl_RX7_28 e0 ?_
  refine r_iload (dc_X7_record 22 rfl) rfl ?_
  obtain ⟨s12, e0, h⟩ := Option.bind_eq_some_iff.mp h
  refine r_iast (dc_X7_record 23 rfl) e0 ?_
  refine r_aload_n (dc_X7_record 24 rfl) rfl rfl ?_
  refine r_aload_n (dc_X7_record 25 rfl) rfl rfl ?_
  obtain ⟨x13, e0, h⟩ := Option.bind_eq_some_iff.mp h
  refine r_getI (dc_X7_record 26 rfl) fl_RX7_28 e0 ?_
  refine r_iconst (dc_X7_record 27 rfl) kiconst_1 ?_
  refine r_iadd (dc_X7_record 28 rfl) ?_
  refine r_bipush (dc_X7_record 29 rfl) kbipush_32 ?_
  refine jn_elim h (Q := fun (j : Int32 → Option Sto) => ∀ (x15 : Int32), j x15 = some r → J G d m_X7_record 63 [(0, .ref a0)] [.int x15, .ref a0] s12 (.inl none) r) ?_ (fun j14 hj14 h => ?_)
  · intro x15 h
    obtain ⟨s16, e0, h⟩ := Option.bind_eq_some_iff.mp h
    refine r_put (dc_X7_record 37 rfl) pl_RX7_28 rfl e0 ?_
    refine r_aload_n (dc_X7_record 38 rfl) rfl rfl ?_
    refine r_aload_n (dc_X7_record 39 rfl) rfl rfl ?_
    obtain ⟨x17, e0, h⟩ := Option.bind_eq_some_iff.mp h
    refine r_getI (dc_X7_record 40 rfl) fl_RX7_24 e0 ?_
    refine r_bipush (dc_X7_record 41 rfl) kbipush_32 ?_
    refine r_icmp_ge (dc_X7_record 42 rfl) (tgt := 85) (by decide) (fun c0 => ?_) (fun c0 => ?_)
    · rw [if_pos c0] at h
      refine r_bipush (dc_X7_record 48 rfl) kbipush_32 ?_
      obtain ⟨s18, e0, h⟩ := Option.bind_eq_some_iff.mp h
      refine r_put (dc_X7_record 49 rfl) pl_RX7_24 rfl e0 ?_
      cases h
      exact r_vreturn (dc_X7_record 50 rfl) rfl
    · rw [if_neg c0] at h
      refine r_aload_n (dc_X7_record 43 rfl) rfl rfl ?_
      obtain ⟨x19, e0, h⟩ := Option.bind_eq_some_iff.mp h
      refine r_getI (dc_X7_record 44 rfl) fl_RX7_24 e0 ?_
      refine r_iconst (dc_X7_record 45 rfl) kiconst_1 ?_
      refine r_iadd (dc_X7_record 46 rfl) ?_
      refine r_goto (dc_X7_record 47 rfl) (tgt := 87) (by decide) ?_
      obtain ⟨s20, e0, h⟩ := Option.bind_eq_some_iff.mp h
      refine r_put (dc_X7_record 49 rfl) pl_RX7_24 rfl e0 ?_
      cases h
      exact r_vreturn (dc_X7_record 50 rfl) rfl
  refine r_icmp_ge (dc_X7_record 30 rfl) (tgt := 62) (by decide) (fun c0 => ?_) (fun c0 => ?_)
  · rw [if_pos c0] at h
    refine r_iconst (dc_X7_record 36 rfl) kiconst_0 ?_
    refine r_pick [0] (lo' := [(0, .ref a0)]) rfl ?_
    exact hj14 _ h
  · rw [if_neg c0] at h
    refine r_aload_n (dc_X7_record 31 rfl) rfl rfl ?_
    obtain ⟨x21, e0, h⟩ := Option.bind_eq_some_iff.mp h
    refine r_getI (dc_X7_record 32 rfl) fl_RX7_28 e0 ?_
    refine r_iconst (dc_X7_record 33 rfl) kiconst_1 ?_
    refine r_iadd (dc_X7_record 34 rfl) ?_
    refine r_goto (dc_X7_record 35 rfl) (tgt := 63) (by decide) ?_
    refine r_pick [0] (lo' := [(0, .ref a0)]) rfl ?_
    exact hj14 _ h
theorem t_X7_told {G : Gx} {d : Nat} (hl : G.1.stackTraces = false) (hd : 0 ≤ d) {σ : Sto} {a0 : Nat} {xa1 : Int32} {xa2 : Int32} {r : Int32} (h : F_X7_told σ a0 xa1 xa2 = some r) : Mi G d m_X7_told 7 a0 [.int xa1, .int xa2] σ (.inl (some (.int r))) σ := by
  rw [F_X7_told] at h
  obtain ⟨hg, h⟩ := chk_some h
  refine ⟨J.toMt (lo := [(0, .ref a0), (1, .int xa1), (2, .int xa2)]) pn_RX7 rfl hl (Nat.le_of_ble_eq_true rfl) rfl ?_, hg⟩
  refine r_aload_n (dc_X7_told 0 rfl) rfl rfl ?_
  obtain ⟨x1, e0, h⟩ := Option.bind_eq_some_iff.mp h
  refine r_getI (dc_X7_told 1 rfl) fl_RX7_28 e0 ?_
  refine r_iconst (dc_X7_told 2 rfl) kiconst_1 ?_
  refine r_isub (dc_X7_told 3 rfl) ?_
  refine r_iload_n (dc_X7_told 4 rfl) rfl rfl ?_
  refine r_isub (dc_X7_told 5 rfl) ?_
  refine r_istore_n (dc_X7_told 6 rfl) rfl (by decide) (lo' := [(3, .int ((x1 - (1 : Int32)) - xa1)), (0, .ref a0), (1, .int xa1), (2, .int xa2)]) rfl ?_
  refine r_iload_n (dc_X7_told 7 rfl) rfl rfl ?_
  refine jn_elim h (Q := fun (j : Int32 → Option Int32) => ∀ (x3 : Int32), j x3 = some r → J G d m_X7_told 16 [(0, .ref a0), (2, .int xa2), (3, .int x3)] [] σ (.inl (some (.int r))) σ) ?_ (fun j2 hj2 h => ?_)
  · intro x3 h
    refine r_iload_n (dc_X7_told 10 rfl) rfl rfl ?_
    by_cases c0 : xa2 = (0 : Int32)
    · rw [if_pos c0] at h
      refine r_tsInE c0 (dc_X7_told 11 rfl) (tgt := 44) (off := 27) (by decide) (by decide) (by decide) (by decide) ?_
      refine r_aload_n (dc_X7_told 12 rfl) rfl rfl ?_
      obtain ⟨p4, e0, h⟩ := Option.bind_eq_some_iff.mp h
      refine r_getR (dc_X7_told 13 rfl) fl_RX7_9 e0 ?_
      refine r_iload_n (dc_X7_told 14 rfl) rfl rfl ?_
      obtain ⟨x5, e0, h⟩ := Option.bind_eq_some_iff.mp h
      refine r_iald (dc_X7_told 15 rfl) e0 ?_
      cases h
      exact r_ireturn (dc_X7_told 16 rfl) rfl
    rw [if_neg c0] at h
    by_cases c1 : xa2 = (1 : Int32)
    · rw [if_pos c1] at h
      refine r_tsInE c1 (dc_X7_told 11 rfl) (tgt := 51) (off := 34) (by decide) (by decide) (by decide) (by decide) ?_
      refine r_aload_n (dc_X7_told 17 rfl) rfl rfl ?_
      obtain ⟨p6, e0, h⟩ := Option.bind_eq_some_iff.mp h
      refine r_getR (dc_X7_told 18 rfl) fl_RX7_15 e0 ?_
      refine r_iload_n (dc_X7_told 19 rfl) rfl rfl ?_
      obtain ⟨x7, e0, h⟩ := Option.bind_eq_some_iff.mp h
      refine r_iald (dc_X7_told 20 rfl) e0 ?_
      cases h
      exact r_ireturn (dc_X7_told 21 rfl) rfl
    rw [if_neg c1] at h
    by_cases c2 : xa2 = (2 : Int32)
    · rw [if_pos c2] at h
      refine r_tsInE c2 (dc_X7_told 11 rfl) (tgt := 58) (off := 41) (by decide) (by decide) (by decide) (by decide) ?_
      refine r_aload_n (dc_X7_told 22 rfl) rfl rfl ?_
      obtain ⟨p8, e0, h⟩ := Option.bind_eq_some_iff.mp h
      refine r_getR (dc_X7_told 23 rfl) fl_RX7_18 e0 ?_
      refine r_iload_n (dc_X7_told 24 rfl) rfl rfl ?_
      obtain ⟨x9, e0, h⟩ := Option.bind_eq_some_iff.mp h
      refine r_iald (dc_X7_told 25 rfl) e0 ?_
      cases h
      exact r_ireturn (dc_X7_told 26 rfl) rfl
    rw [if_neg c2] at h
    refine r_tsOut (dc_X7_told 11 rfl) (tgt := 65) (ts_out (n := 3) (fun k hk => match k, hk with | 0, _ => c0 | 1, _ => c1 | 2, _ => c2 | k + 3, hk => absurd hk (by omega)) (by decide)) (by decide) ?_
    refine r_aload_n (dc_X7_told 27 rfl) rfl rfl ?_
    obtain ⟨p10, e0, h⟩ := Option.bind_eq_some_iff.mp h
    refine r_getR (dc_X7_told 28 rfl) fl_RX7_21 e0 ?_
    refine r_iload_n (dc_X7_told 29 rfl) rfl rfl ?_
    obtain ⟨x11, e0, h⟩ := Option.bind_eq_some_iff.mp h
    refine r_iald (dc_X7_told 30 rfl) e0 ?_
    cases h
    exact r_ireturn (dc_X7_told 31 rfl) rfl
  refine r_if_ge (dc_X7_told 8 rfl) (tgt := 16) (by decide) (fun c0 => ?_) (fun c0 => ?_)
  · rw [if_pos c0] at h
    refine r_pick [1, 3, 0] (lo' := [(0, .ref a0), (2, .int xa2), (3, .int ((x1 - (1 : Int32)) - xa1))]) rfl ?_
    exact hj2 _ h
  · rw [if_neg c0] at h
    refine r_iinc (dc_X7_told 9 rfl) rfl (kinc_32 _) (by decide) (lo' := [(3, .int (((x1 - (1 : Int32)) - xa1) + (32 : Int32))), (0, .ref a0), (1, .int xa1), (2, .int xa2)]) rfl ?_
    refine r_pick [1, 3, 0] (lo' := [(0, .ref a0), (2, .int xa2), (3, .int (((x1 - (1 : Int32)) - xa1) + (32 : Int32)))]) rfl ?_
    exact hj2 _ h
theorem l_X8_init_L55 {G : Gx} {d : Nat} (hl : G.1.stackTraces = false) (hd : 3 ≤ d) {pL0 : Nat} {r : Sto} {k92 : Sto → Option Sto}
    (hk92 : ∀ (sL : Sto), k92 sL = some r → J G d m_X8_init 92 [(0, .ref pL0)] [] sL (.inl none) r)
  : ∀ (f : Nat) (xL1 : Int32) (sL : Sto), F_X8_init_L55 pL0 f xL1 sL k92 = some r → J G d m_X8_init 55 [(0, .ref pL0), (1, .int xL1)] [] sL (.inl none) r := by
  intro f
  induction f with
  | zero => intro xL1 sL h; rw [F_X8_init_L55] at h; cases h
  | succ f ih =>
    intro xL1 sL h
    rw [F_X8_init_L55] at h
    refine r_iload_n (dc_X8_init 28 rfl) rfl rfl ?_
    refine r_iconst (dc_X8_init 29 rfl) kiconst_5 ?_
    refine r_icmp_ge (dc_X8_init 30 rfl) (tgt := 92) (by decide) (fun c0 => ?_) (fun c0 => ?_)
    · rw [if_pos c0] at h
      refine r_pick [0] (lo' := [(0, .ref pL0)]) rfl ?_
      exact hk92 _ h
    · rw [if_neg c0] at h
      refine r_aload_n (dc_X8_init 31 rfl) rfl rfl ?_
      obtain ⟨p18, e0, h⟩ := Option.bind_eq_some_iff.mp h
      refine r_getR (dc_X8_init 32 rfl) fl_RX8_24 e0 ?_
      refine r_iload_n (dc_X8_init 33 rfl) rfl rfl ?_
      obtain ⟨p20, s19, ev, es, h⟩ := nw_some h
      refine r_new (dc_X8_init 34 rfl) nl_RX8_22 ?_
      rw [← ev, ← es]
      refine r_dup (dc_X8_init 35 rfl) rfl ?_
      obtain ⟨s21, e0, h⟩ := Option.bind_eq_some_iff.mp h
      refine r_callIN (dc_X8_init 36 rfl) mi_X6_init mn_RX8_41 (As := []) (t_X6_init (d := d - 1) hl (by omega) e0) (by omega) rfl (Nat.le_of_ble_eq_true rfl) ?_
      obtain ⟨s22, e0, h⟩ := Option.bind_eq_some_iff.mp h
      refine r_aast (dc_X8_init 37 rfl) (kd := 4) rfl rfl e0 ?_
      refine r_aload_n (dc_X8_init 38 rfl) rfl rfl ?_
      obtain ⟨p23, e0, h⟩ := Option.bind_eq_some_iff.mp h
      refine r_getR (dc_X8_init 39 rfl) fl_RX8_28 e0 ?_
      refine r_iload_n (dc_X8_init 40 rfl) rfl rfl ?_
      obtain ⟨p25, s24, ev, es, h⟩ := nw_some h
      refine r_new (dc_X8_init 41 rfl) nl_RX8_22 ?_
      rw [← ev, ← es]
      refine r_dup (dc_X8_init 42 rfl) rfl ?_
      obtain ⟨s26, e0, h⟩ := Option.bind_eq_some_iff.mp h
      refine r_callIN (dc_X8_init 43 rfl) mi_X6_init mn_RX8_41 (As := []) (t_X6_init (d := d - 1) hl (by omega) e0) (by omega) rfl (Nat.le_of_ble_eq_true rfl) ?_
      obtain ⟨s27, e0, h⟩ := Option.bind_eq_some_iff.mp h
      refine r_aast (dc_X8_init 44 rfl) (kd := 4) rfl rfl e0 ?_
      refine r_iinc (dc_X8_init 45 rfl) rfl (kinc_1 _) (by decide) (lo' := [(1, .int (xL1 + (1 : Int32))), (0, .ref pL0)]) rfl ?_
      refine r_goto (dc_X8_init 46 rfl) (tgt := 55) (by decide) ?_
      refine r_pick [1, 0] (lo' := [(0, .ref pL0), (1, .int (xL1 + (1 : Int32)))]) rfl ?_
      exact ih _ _ h
theorem l_X8_init_L94 {G : Gx} {d : Nat} (hl : G.1.stackTraces = false) (hd : 3 ≤ d) {pL0 : Nat} {r : Sto} {k119 : Sto → Option Sto}
    (hk119 : ∀ (sL : Sto), k119 sL = some r → J G d m_X8_init 119 [] [] sL (.inl none) r)
  : ∀ (f : Nat) (xL1 : Int32) (sL : Sto), F_X8_init_L94 pL0 f xL1 sL k119 = some r → J G d m_X8_init 94 [(0, .ref pL0), (1, .int xL1)] [] sL (.inl none) r := by
  intro f
  induction f with
  | zero => intro xL1 sL h; rw [F_X8_init_L94] at h; cases h
  | succ f ih =>
    intro xL1 sL h
    rw [F_X8_init_L94] at h
    refine r_iload_n (dc_X8_init 49 rfl) rfl rfl ?_
    refine r_bipush (dc_X8_init 50 rfl) kbipush_25 ?_
    refine r_icmp_ge (dc_X8_init 51 rfl) (tgt := 119) (by decide) (fun c0 => ?_) (fun c0 => ?_)
    · rw [if_pos c0] at h
      refine r_pick [] (lo' := []) rfl ?_
      exact hk119 _ h
    · rw [if_neg c0] at h
      refine r_aload_n (dc_X8_init 52 rfl) rfl rfl ?_
      obtain ⟨p29, e0, h⟩ := Option.bind_eq_some_iff.mp h
      refine r_getR (dc_X8_init 53 rfl) fl_RX8_33 e0 ?_
      refine r_iload_n (dc_X8_init 54 rfl) rfl rfl ?_
      obtain ⟨p31, s30, ev, es, h⟩ := nw_some h
      refine r_new (dc_X8_init 55 rfl) nl_RX8_31 ?_
      rw [← ev, ← es]
      refine r_dup (dc_X8_init 56 rfl) rfl ?_
      obtain ⟨s32, e0, h⟩ := Option.bind_eq_some_iff.mp h
      refine r_callIN (dc_X8_init 57 rfl) mi_X4_init mn_RX8_42 (As := []) (t_X4_init (d := d - 1) hl (by omega) e0) (by omega) rfl (Nat.le_of_ble_eq_true rfl) ?_
      obtain ⟨s33, e0, h⟩ := Option.bind_eq_some_iff.mp h
      refine r_aast (dc_X8_init 58 rfl) (kd := 5) rfl rfl e0 ?_
      refine r_iinc (dc_X8_init 59 rfl) rfl (kinc_1 _) (by decide) (lo' := [(1, .int (xL1 + (1 : Int32))), (0, .ref pL0)]) rfl ?_
      refine r_goto (dc_X8_init 60 rfl) (tgt := 94) (by decide) ?_
      refine r_pick [1, 0] (lo' := [(0, .ref pL0), (1, .int (xL1 + (1 : Int32)))]) rfl ?_
      exact ih _ _ h
theorem t_X8_init {G : Gx} {d : Nat} (hl : G.1.stackTraces = false) (hd : 3 ≤ d) {σ : Sto} {a0 : Nat} {r : Sto} (h : F_X8_init σ a0 = some r) : Mt G d m_X8_init [Value.ref a0] σ (.inl none) r := by
  rw [F_X8_init] at h
  refine J.toMt (lo := [(0, .ref a0)]) pn_RX8 rfl hl (Nat.le_of_ble_eq_true rfl) rfl ?_
  refine r_aload_n (dc_X8_init 0 rfl) rfl rfl ?_
  refine r_objInit (dc_X8_init 1 rfl) ml_RX8_3 w_obj1 w_obj2 (by omega) (Nat.le_of_ble_eq_true rfl) ?_
  refine r_aload_n (dc_X8_init 2 rfl) rfl rfl ?_
  refine r_iconst (dc_X8_init 3 rfl) kiconst_3 ?_
  obtain ⟨s1, e0, h⟩ := Option.bind_eq_some_iff.mp h
  refine r_put (dc_X8_init 4 rfl) pl_RX8_9 rfl e0 ?_
  refine r_aload_n (dc_X8_init 5 rfl) rfl rfl ?_
  obtain ⟨p3, s2, ev, es, h⟩ := nw_some h
  refine r_new (dc_X8_init 6 rfl) nl_RX8_15 ?_
  rw [← ev, ← es]
  refine r_dup (dc_X8_init 7 rfl) rfl ?_
  obtain ⟨s4, e0, h⟩ := Option.bind_eq_some_iff.mp h
  refine r_callI (dc_X8_init 8 rfl) mi_X2_init ml_RX8_17 (As := []) (t_X2_init (d := d - 1) hl (by omega) e0) (by omega) rfl (Nat.le_of_ble_eq_true rfl) ?_
  obtain ⟨s5, e0, h⟩ := Option.bind_eq_some_iff.mp h
  refine r_putX (dc_X8_init 9 rfl) pl_RX8_18 (Or.inr ⟨rfl, fun q hq => by cases hq; rfl⟩) rfl e0 ?_
  refine r_aload_n (dc_X8_init 10 rfl) rfl rfl ?_
  refine r_iconst (dc_X8_init 11 rfl) kiconst_5 ?_
  obtain ⟨p7, s6, ev, es, h⟩ := nw_some h
  refine r_newR (dc_X8_init 12 rfl) (kd := 4) rfl cl_RX8_22 (by decide) (by decide) (by decide +kernel) ?_
  rw [← ev, ← es]
  obtain ⟨s8, e0, h⟩ := Option.bind_eq_some_iff.mp h
  refine r_putX (dc_X8_init 13 rfl) pl_RX8_24 (Or.inr ⟨rfl, fun q hq => by cases hq; rfl⟩) rfl e0 ?_
  refine r_aload_n (dc_X8_init 14 rfl) rfl rfl ?_
  refine r_iconst (dc_X8_init 15 rfl) kiconst_5 ?_
  obtain ⟨p10, s9, ev, es, h⟩ := nw_some h
  refine r_newR (dc_X8_init 16 rfl) (kd := 4) rfl cl_RX8_22 (by decide) (by decide) (by decide +kernel) ?_
  rw [← ev, ← es]
  obtain ⟨s11, e0, h⟩ := Option.bind_eq_some_iff.mp h
  refine r_putX (dc_X8_init 17 rfl) pl_RX8_28 (Or.inr ⟨rfl, fun q hq => by cases hq; rfl⟩) rfl e0 ?_
  refine r_aload_n (dc_X8_init 18 rfl) rfl rfl ?_
  refine r_bipush (dc_X8_init 19 rfl) kbipush_25 ?_
  obtain ⟨p13, s12, ev, es, h⟩ := nw_some h
  refine r_newR (dc_X8_init 20 rfl) (kd := 5) rfl cl_RX8_31 (by decide) (by decide) (by decide +kernel) ?_
  rw [← ev, ← es]
  obtain ⟨s14, e0, h⟩ := Option.bind_eq_some_iff.mp h
  refine r_putX (dc_X8_init 21 rfl) pl_RX8_33 (Or.inr ⟨rfl, fun q hq => by cases hq; rfl⟩) rfl e0 ?_
  refine r_aload_n (dc_X8_init 22 rfl) rfl rfl ?_
  refine r_bipush (dc_X8_init 23 rfl) kbipush_25 ?_
  obtain ⟨p16, s15, ev, es, h⟩ := nw_some h
  refine r_newZ (dc_X8_init 24 rfl) ac_boolean (by decide) (by decide +kernel) ?_
  rw [← ev, ← es]
  obtain ⟨s17, e0, h⟩ := Option.bind_eq_some_iff.mp h
  refine r_putX (dc_X8_init 25 rfl) pl_RX8_37 (Or.inr ⟨rfl, fun q hq => by cases hq; rfl⟩) rfl e0 ?_
  refine r_iconst (dc_X8_init 26 rfl) kiconst_0 ?_
  refine r_istore_n (dc_X8_init 27 rfl) rfl (by decide) (lo' := [(1, .int (0 : Int32)), (0, .ref a0)]) rfl ?_
  refine r_pick [1, 0] (lo' := [(0, .ref a0), (1, .int (0 : Int32))]) rfl ?_
  refine l_X8_init_L55 hl hd (hk92 := ?_) fu _ _ h
  · intro s28 h
    refine r_iconst (dc_X8_init 47 rfl) kiconst_0 ?_
    refine r_istore_n (dc_X8_init 48 rfl) rfl (by decide) (lo' := [(1, .int (0 : Int32)), (0, .ref a0)]) rfl ?_
    refine r_pick [1, 0] (lo' := [(0, .ref a0), (1, .int (0 : Int32))]) rfl ?_
    refine l_X8_init_L94 hl hd (hk119 := ?_) fu _ _ h
    · intro s34 h
      cases h
      exact r_vreturn (dc_X8_init 61 rfl) rfl
theorem l_X8_begin_L34 {G : Gx} {d : Nat} (hl : G.1.stackTraces = false) (hd : 2 ≤ d) {pL0 : Nat} {r : Sto} {k63 : Sto → Option Sto}
    (hk63 : ∀ (sL : Sto), k63 sL = some r → J G d m_X8_begin 63 [(0, .ref pL0)] [] sL (.inl none) r)
  : ∀ (f : Nat) (xL2 : Int32) (sL : Sto), F_X8_begin_L34 pL0 f xL2 sL k63 = some r → J G d m_X8_begin 34 [(0, .ref pL0), (2, .int xL2)] [] sL (.inl none) r := by
  intro f
  induction f with
  | zero => intro xL2 sL h; rw [F_X8_begin_L34] at h; cases h
  | succ f ih =>
    intro xL2 sL h
    rw [F_X8_begin_L34] at h
    refine r_iload_n (dc_X8_begin 20 rfl) rfl rfl ?_
    refine r_iconst (dc_X8_begin 21 rfl) kiconst_5 ?_
    refine r_icmp_ge (dc_X8_begin 22 rfl) (tgt := 63) (by decide) (fun c0 => ?_) (fun c0 => ?_)
    · rw [if_pos c0] at h
      refine r_pick [0] (lo' := [(0, .ref pL0)]) rfl ?_
      exact hk63 _ h
    · rw [if_neg c0] at h
      refine r_aload_n (dc_X8_begin 23 rfl) rfl rfl ?_
      obtain ⟨p8, e0, h⟩ := Option.bind_eq_some_iff.mp h
      refine r_getR (dc_X8_begin 24 rfl) fl_RX8_24 e0 ?_
      refine r_iload_n (dc_X8_begin 25 rfl) rfl rfl ?_
      obtain ⟨p9, e0, h⟩ := Option.bind_eq_some_iff.mp h
      refine r_aaldR (dc_X8_begin 26 rfl) (kd := 4) rfl e0 ?_
      obtain ⟨s10, e0, h⟩ := Option.bind_eq_some_iff.mp h
      refine r_callV (dc_X8_begin 27 rfl) mv_X6_clear ml_RX8_58 (As := []) (t_X6_clear (d := d - 1) hl (by omega) e0) (by omega) rfl (Nat.le_of_ble_eq_true rfl) ?_
      refine r_aload_n (dc_X8_begin 28 rfl) rfl rfl ?_
      obtain ⟨p11, e0, h⟩ := Option.bind_eq_some_iff.mp h
      refine r_getR (dc_X8_begin 29 rfl) fl_RX8_28 e0 ?_
      refine r_iload_n (dc_X8_begin 30 rfl) rfl rfl ?_
      obtain ⟨p12, e0, h⟩ := Option.bind_eq_some_iff.mp h
      refine r_aaldR (dc_X8_begin 31 rfl) (kd := 4) rfl e0 ?_
      obtain ⟨s13, e0, h⟩ := Option.bind_eq_some_iff.mp h
      refine r_callV (dc_X8_begin 32 rfl) mv_X6_clear ml_RX8_58 (As := []) (t_X6_clear (d := d - 1) hl (by omega) e0) (by omega) rfl (Nat.le_of_ble_eq_true rfl) ?_
      refine r_iinc (dc_X8_begin 33 rfl) rfl (kinc_1 _) (by decide) (lo' := [(2, .int (xL2 + (1 : Int32))), (0, .ref pL0)]) rfl ?_
      refine r_goto (dc_X8_begin 34 rfl) (tgt := 34) (by decide) ?_
      refine r_pick [1, 0] (lo' := [(0, .ref pL0), (2, .int (xL2 + (1 : Int32)))]) rfl ?_
      exact ih _ _ h
theorem l_X8_begin_L65 {G : Gx} {d : Nat} (hl : G.1.stackTraces = false) (hd : 2 ≤ d) {pL0 : Nat} {r : Sto} {k94 : Sto → Option Sto}
    (hk94 : ∀ (sL : Sto), k94 sL = some r → J G d m_X8_begin 94 [] [] sL (.inl none) r)
  : ∀ (f : Nat) (xL2 : Int32) (sL : Sto), F_X8_begin_L65 pL0 f xL2 sL k94 = some r → J G d m_X8_begin 65 [(0, .ref pL0), (2, .int xL2)] [] sL (.inl none) r := by
  intro f
  induction f with
  | zero => intro xL2 sL h; rw [F_X8_begin_L65] at h; cases h
  | succ f ih =>
    intro xL2 sL h
    rw [F_X8_begin_L65] at h
    refine r_iload_n (dc_X8_begin 37 rfl) rfl rfl ?_
    refine r_bipush (dc_X8_begin 38 rfl) kbipush_25 ?_
    refine r_icmp_ge (dc_X8_begin 39 rfl) (tgt := 94) (by decide) (fun c0 => ?_) (fun c0 => ?_)
    · rw [if_pos c0] at h
      refine r_pick [] (lo' := []) rfl ?_
      exact hk94 _ h
    · rw [if_neg c0] at h
      refine r_aload_n (dc_X8_begin 40 rfl) rfl rfl ?_
      obtain ⟨p15, e0, h⟩ := Option.bind_eq_some_iff.mp h
      refine r_getR (dc_X8_begin 41 rfl) fl_RX8_33 e0 ?_
      refine r_iload_n (dc_X8_begin 42 rfl) rfl rfl ?_
      obtain ⟨p16, e0, h⟩ := Option.bind_eq_some_iff.mp h
      refine r_aaldR (dc_X8_begin 43 rfl) (kd := 5) rfl e0 ?_
      refine r_iconst (dc_X8_begin 44 rfl) kiconst_0 ?_
      obtain ⟨s17, e0, h⟩ := Option.bind_eq_some_iff.mp h
      refine r_put (dc_X8_begin 45 rfl) pl_RX8_59 rfl e0 ?_
      refine r_aload_n (dc_X8_begin 46 rfl) rfl rfl ?_
      obtain ⟨p18, e0, h⟩ := Option.bind_eq_some_iff.mp h
      refine r_getR (dc_X8_begin 47 rfl) fl_RX8_37 e0 ?_
      refine r_iload_n (dc_X8_begin 48 rfl) rfl rfl ?_
      refine r_iconst (dc_X8_begin 49 rfl) kiconst_0 ?_
      obtain ⟨s19, e0, h⟩ := Option.bind_eq_some_iff.mp h
      refine r_zast (dc_X8_begin 50 rfl) e0 ?_
      refine r_iinc (dc_X8_begin 51 rfl) rfl (kinc_1 _) (by decide) (lo' := [(2, .int (xL2 + (1 : Int32))), (0, .ref pL0)]) rfl ?_
      refine r_goto (dc_X8_begin 52 rfl) (tgt := 65) (by decide) ?_
      refine r_pick [1, 0] (lo' := [(0, .ref pL0), (2, .int (xL2 + (1 : Int32)))]) rfl ?_
      exact ih _ _ h
theorem t_X8_begin {G : Gx} {d : Nat} (hl : G.1.stackTraces = false) (hd : 2 ≤ d) {σ : Sto} {a0 : Nat} {xa1 : Int32} {r : Sto} (h : F_X8_begin σ a0 xa1 = some r) : Mi G d m_X8_begin 8 a0 [.int xa1] σ (.inl none) r := by
  rw [F_X8_begin] at h
  obtain ⟨hg, h⟩ := chk_some h
  refine ⟨J.toMt (lo := [(0, .ref a0), (1, .int xa1)]) pn_RX8 rfl hl (Nat.le_of_ble_eq_true rfl) rfl ?_, hg⟩
  refine r_aload_n (dc_X8_begin 0 rfl) rfl rfl ?_
  refine r_iload_n (dc_X8_begin 1 rfl) rfl rfl ?_
  obtain ⟨s1, e0, h⟩ := Option.bind_eq_some_iff.mp h
  refine r_put (dc_X8_begin 2 rfl) pl_RX8_9 rfl e0 ?_
  refine r_aload_n (dc_X8_begin 3 rfl) rfl rfl ?_
  refine r_iconst (dc_X8_begin 4 rfl) kiconst_0 ?_
  obtain ⟨s2, e0, h⟩ := Option.bind_eq_some_iff.mp h
  refine r_put (dc_X8_begin 5 rfl) pl_RX8_43 rfl e0 ?_
  refine r_aload_n (dc_X8_begin 6 rfl) rfl rfl ?_
  refine r_iconst (dc_X8_begin 7 rfl) kiconst_0 ?_
  obtain ⟨s3, e0, h⟩ := Option.bind_eq_some_iff.mp h
  refine r_put (dc_X8_begin 8 rfl) pl_RX8_46 rfl e0 ?_
  refine r_aload_n (dc_X8_begin 9 rfl) rfl rfl ?_
  refine r_iconst (dc_X8_begin 10 rfl) kiconst_0 ?_
  obtain ⟨s4, e0, h⟩ := Option.bind_eq_some_iff.mp h
  refine r_put (dc_X8_begin 11 rfl) pl_RX8_49 rfl e0 ?_
  refine r_aload_n (dc_X8_begin 12 rfl) rfl rfl ?_
  refine r_iconst (dc_X8_begin 13 rfl) kiconst_0 ?_
  obtain ⟨s5, e0, h⟩ := Option.bind_eq_some_iff.mp h
  refine r_put (dc_X8_begin 14 rfl) pl_RX8_52 rfl e0 ?_
  refine r_aload_n (dc_X8_begin 15 rfl) rfl rfl ?_
  obtain ⟨p6, e0, h⟩ := Option.bind_eq_some_iff.mp h
  refine r_getR (dc_X8_begin 16 rfl) fl_RX8_18 e0 ?_
  obtain ⟨s7, e0, h⟩ := Option.bind_eq_some_iff.mp h
  refine r_callV (dc_X8_begin 17 rfl) mv_X2_clear ml_RX8_55 (As := []) (t_X2_clear (d := d - 1) hl (by omega) e0) (by omega) rfl (Nat.le_of_ble_eq_true rfl) ?_
  refine r_iconst (dc_X8_begin 18 rfl) kiconst_0 ?_
  refine r_istore_n (dc_X8_begin 19 rfl) rfl (by decide) (lo' := [(2, .int (0 : Int32)), (0, .ref a0), (1, .int xa1)]) rfl ?_
  refine r_pick [1, 0] (lo' := [(0, .ref a0), (2, .int (0 : Int32))]) rfl ?_
  refine l_X8_begin_L34 hl hd (hk63 := ?_) fu _ _ h
  · intro s14 h
    refine r_iconst (dc_X8_begin 35 rfl) kiconst_0 ?_
    refine r_istore_n (dc_X8_begin 36 rfl) rfl (by decide) (lo' := [(2, .int (0 : Int32)), (0, .ref a0)]) rfl ?_
    refine r_pick [1, 0] (lo' := [(0, .ref a0), (2, .int (0 : Int32))]) rfl ?_
    refine l_X8_begin_L65 hl hd (hk94 := ?_) fu _ _ h
    · intro s20 h
      cases h
      exact r_vreturn (dc_X8_begin 53 rfl) rfl
theorem l_X8_copyOf_L61 {G : Gx} {d : Nat} (hl : G.1.stackTraces = false) (hd : 6 ≤ d) {pL0 : Nat} {pL1 : Nat} {r : Sto} {k102 : Sto → Option Sto}
    (hk102 : ∀ (sL : Sto), k102 sL = some r → J G d m_X8_copyOf 102 [(0, .ref pL0), (1, .ref pL1)] [] sL (.inl none) r)
  : ∀ (f : Nat) (xL2 : Int32) (sL : Sto), F_X8_copyOf_L61 pL0 pL1 f xL2 sL k102 = some r → J G d m_X8_copyOf 61 [(0, .ref pL0), (1, .ref pL1), (2, .int xL2)] [] sL (.inl none) r := by
  intro f
  induction f with
  | zero => intro xL2 sL h; rw [F_X8_copyOf_L61] at h; cases h
  | succ f ih =>
    intro xL2 sL h
    rw [F_X8_copyOf_L61] at h
    refine r_iload_n (dc_X8_copyOf 31 rfl) rfl rfl ?_
    refine r_iconst (dc_X8_copyOf 32 rfl) kiconst_5 ?_
    refine r_icmp_ge (dc_X8_copyOf 33 rfl) (tgt := 102) (by decide) (fun c0 => ?_) (fun c0 => ?_)
    · rw [if_pos c0] at h
      refine r_pick [0, 1] (lo' := [(0, .ref pL0), (1, .ref pL1)]) rfl ?_
      exact hk102 _ h
    · rw [if_neg c0] at h
      refine r_aload_n (dc_X8_copyOf 34 rfl) rfl rfl ?_
      obtain ⟨p16, e0, h⟩ := Option.bind_eq_some_iff.mp h
      refine r_getR (dc_X8_copyOf 35 rfl) fl_RX8_24 e0 ?_
      refine r_iload_n (dc_X8_copyOf 36 rfl) rfl rfl ?_
      obtain ⟨p17, e0, h⟩ := Option.bind_eq_some_iff.mp h
      refine r_aaldR (dc_X8_copyOf 37 rfl) (kd := 4) rfl e0 ?_
      refine r_aload_n (dc_X8_copyOf 38 rfl) rfl rfl ?_
      obtain ⟨p18, e0, h⟩ := Option.bind_eq_some_iff.mp h
      refine r_getR (dc_X8_copyOf 39 rfl) fl_RX8_24 e0 ?_
      refine r_iload_n (dc_X8_copyOf 40 rfl) rfl rfl ?_
      obtain ⟨p19, e0, h⟩ := Option.bind_eq_some_iff.mp h
      refine r_aaldR (dc_X8_copyOf 41 rfl) (kd := 4) rfl e0 ?_
      obtain ⟨s20, e0, h⟩ := Option.bind_eq_some_iff.mp h
      refine r_callV (dc_X8_copyOf 42 rfl) mv_X6_copyOf ml_RX8_69 (As := [.ref p19]) (t_X6_copyOf (d := d - 1) hl (by omega) e0) (by omega) rfl (Nat.le_of_ble_eq_true rfl) ?_
      refine r_aload_n (dc_X8_copyOf 43 rfl) rfl rfl ?_
      obtain ⟨p21, e0, h⟩ := Option.bind_eq_some_iff.mp h
      refine r_getR (dc_X8_copyOf 44 rfl) fl_RX8_28 e0 ?_
      refine r_iload_n (dc_X8_copyOf 45 rfl) rfl rfl ?_
      obtain ⟨p22, e0, h⟩ := Option.bind_eq_some_iff.mp h
      refine r_aaldR (dc_X8_copyOf 46 rfl) (kd := 4) rfl e0 ?_
      refine r_aload_n (dc_X8_copyOf 47 rfl) rfl rfl ?_
      obtain ⟨p23, e0, h⟩ := Option.bind_eq_some_iff.mp h
      refine r_getR (dc_X8_copyOf 48 rfl) fl_RX8_28 e0 ?_
      refine r_iload_n (dc_X8_copyOf 49 rfl) rfl rfl ?_
      obtain ⟨p24, e0, h⟩ := Option.bind_eq_some_iff.mp h
      refine r_aaldR (dc_X8_copyOf 50 rfl) (kd := 4) rfl e0 ?_
      obtain ⟨s25, e0, h⟩ := Option.bind_eq_some_iff.mp h
      refine r_callV (dc_X8_copyOf 51 rfl) mv_X6_copyOf ml_RX8_69 (As := [.ref p24]) (t_X6_copyOf (d := d - 1) hl (by omega) e0) (by omega) rfl (Nat.le_of_ble_eq_true rfl) ?_
      refine r_iinc (dc_X8_copyOf 52 rfl) rfl (kinc_1 _) (by decide) (lo' := [(2, .int (xL2 + (1 : Int32))), (0, .ref pL0), (1, .ref pL1)]) rfl ?_
      refine r_goto (dc_X8_copyOf 53 rfl) (tgt := 61) (by decide) ?_
      refine r_pick [1, 2, 0] (lo' := [(0, .ref pL0), (1, .ref pL1), (2, .int (xL2 + (1 : Int32)))]) rfl ?_
      exact ih _ _ h
theorem l_X8_copyOf_L104 {G : Gx} {d : Nat} (hl : G.1.stackTraces = false) (hd : 6 ≤ d) {pL0 : Nat} {pL1 : Nat} {r : Sto} {k143 : Sto → Option Sto}
    (hk143 : ∀ (sL : Sto), k143 sL = some r → J G d m_X8_copyOf 143 [] [] sL (.inl none) r)
  : ∀ (f : Nat) (xL2 : Int32) (sL : Sto), F_X8_copyOf_L104 pL0 pL1 f xL2 sL k143 = some r → J G d m_X8_copyOf 104 [(0, .ref pL0), (1, .ref pL1), (2, .int xL2)] [] sL (.inl none) r := by
  intro f
  induction f with
  | zero => intro xL2 sL h; rw [F_X8_copyOf_L104] at h; cases h
  | succ f ih =>
    intro xL2 sL h
    rw [F_X8_copyOf_L104] at h
    refine r_iload_n (dc_X8_copyOf 56 rfl) rfl rfl ?_
    refine r_bipush (dc_X8_copyOf 57 rfl) kbipush_25 ?_
    refine r_icmp_ge (dc_X8_copyOf 58 rfl) (tgt := 143) (by decide) (fun c0 => ?_) (fun c0 => ?_)
    · rw [if_pos c0] at h
      refine r_pick [] (lo' := []) rfl ?_
      exact hk143 _ h
    · rw [if_neg c0] at h
      refine r_aload_n (dc_X8_copyOf 59 rfl) rfl rfl ?_
      obtain ⟨p27, e0, h⟩ := Option.bind_eq_some_iff.mp h
      refine r_getR (dc_X8_copyOf 60 rfl) fl_RX8_33 e0 ?_
      refine r_iload_n (dc_X8_copyOf 61 rfl) rfl rfl ?_
      obtain ⟨p28, e0, h⟩ := Option.bind_eq_some_iff.mp h
      refine r_aaldR (dc_X8_copyOf 62 rfl) (kd := 5) rfl e0 ?_
      refine r_aload_n (dc_X8_copyOf 63 rfl) rfl rfl ?_
      obtain ⟨p29, e0, h⟩ := Option.bind_eq_some_iff.mp h
      refine r_getR (dc_X8_copyOf 64 rfl) fl_RX8_33 e0 ?_
      refine r_iload_n (dc_X8_copyOf 65 rfl) rfl rfl ?_
      obtain ⟨p30, e0, h⟩ := Option.bind_eq_some_iff.mp h
      refine r_aaldR (dc_X8_copyOf 66 rfl) (kd := 5) rfl e0 ?_
      obtain ⟨s31, e0, h⟩ := Option.bind_eq_some_iff.mp h
      refine r_callV (dc_X8_copyOf 67 rfl) mv_X4_copyOf ml_RX8_72 (As := [.ref p30]) (t_X4_copyOf (d := d - 1) hl (by omega) e0) (by omega) rfl (Nat.le_of_ble_eq_true rfl) ?_
      refine r_aload_n (dc_X8_copyOf 68 rfl) rfl rfl ?_
      obtain ⟨p32, e0, h⟩ := Option.bind_eq_some_iff.mp h
      refine r_getR (dc_X8_copyOf 69 rfl) fl_RX8_37 e0 ?_
      refine r_iload_n (dc_X8_copyOf 70 rfl) rfl rfl ?_
      refine r_aload_n (dc_X8_copyOf 71 rfl) rfl rfl ?_
      obtain ⟨p33, e0, h⟩ := Option.bind_eq_some_iff.mp h
      refine r_getR (dc_X8_copyOf 72 rfl) fl_RX8_37 e0 ?_
      refine r_iload_n (dc_X8_copyOf 73 rfl) rfl rfl ?_
      obtain ⟨x34, e0, h⟩ := Option.bind_eq_some_iff.mp h
      refine r_zald (dc_X8_copyOf 74 rfl) e0 ?_
      obtain ⟨s35, e0, h⟩ := Option.bind_eq_some_iff.mp h
      refine r_zast (dc_X8_copyOf 75 rfl) e0 ?_
      refine r_iinc (dc_X8_copyOf 76 rfl) rfl (kinc_1 _) (by decide) (lo' := [(2, .int (xL2 + (1 : Int32))), (0, .ref pL0), (1, .ref pL1)]) rfl ?_
      refine r_goto (dc_X8_copyOf 77 rfl) (tgt := 104) (by decide) ?_
      refine r_pick [1, 2, 0] (lo' := [(0, .ref pL0), (1, .ref pL1), (2, .int (xL2 + (1 : Int32)))]) rfl ?_
      exact ih _ _ h
theorem t_X8_copyOf {G : Gx} {d : Nat} (hl : G.1.stackTraces = false) (hd : 6 ≤ d) {σ : Sto} {a0 : Nat} {pa1 : Nat} {r : Sto} (h : F_X8_copyOf σ a0 pa1 = some r) : Mi G d m_X8_copyOf 8 a0 [.ref pa1] σ (.inl none) r := by
  rw [F_X8_copyOf] at h
  obtain ⟨hg, h⟩ := chk_some h
  refine ⟨J.toMt (lo := [(0, .ref a0), (1, .ref pa1)]) pn_RX8 rfl hl (Nat.le_of_ble_eq_true rfl) rfl ?_, hg⟩
  refine r_aload_n (dc_X8_copyOf 0 rfl) rfl rfl ?_
  refine r_aload_n (dc_X8_copyOf 1 rfl) rfl rfl ?_
  obtain ⟨x1, e0, h⟩ := Option.bind_eq_some_iff.mp h
  refine r_getI (dc_X8_copyOf 2 rfl) fl_RX8_9 e0 ?_
  obtain ⟨s2, e0, h⟩ := Option.bind_eq_some_iff.mp h
  refine r_put (dc_X8_copyOf 3 rfl) pl_RX8_9 rfl e0 ?_
  refine r_aload_n (dc_X8_copyOf 4 rfl) rfl rfl ?_
  refine r_aload_n (dc_X8_copyOf 5 rfl) rfl rfl ?_
  obtain ⟨x3, e0, h⟩ := Option.bind_eq_some_iff.mp h
  refine r_getI (dc_X8_copyOf 6 rfl) fl_RX8_62 e0 ?_
  obtain ⟨s4, e0, h⟩ := Option.bind_eq_some_iff.mp h
  refine r_put (dc_X8_copyOf 7 rfl) pl_RX8_62 rfl e0 ?_
  refine r_aload_n (dc_X8_copyOf 8 rfl) rfl rfl ?_
  refine r_aload_n (dc_X8_copyOf 9 rfl) rfl rfl ?_
  obtain ⟨x5, e0, h⟩ := Option.bind_eq_some_iff.mp h
  refine r_getI (dc_X8_copyOf 10 rfl) fl_RX8_43 e0 ?_
  obtain ⟨s6, e0, h⟩ := Option.bind_eq_some_iff.mp h
  refine r_put (dc_X8_copyOf 11 rfl) pl_RX8_43 rfl e0 ?_
  refine r_aload_n (dc_X8_copyOf 12 rfl) rfl rfl ?_
  refine r_aload_n (dc_X8_copyOf 13 rfl) rfl rfl ?_
  obtain ⟨x7, e0, h⟩ := Option.bind_eq_some_iff.mp h
  refine r_getI (dc_X8_copyOf 14 rfl) fl_RX8_46 e0 ?_
  obtain ⟨s8, e0, h⟩ := Option.bind_eq_some_iff.mp h
  refine r_put (dc_X8_copyOf 15 rfl) pl_RX8_46 rfl e0 ?_
  refine r_aload_n (dc_X8_copyOf 16 rfl) rfl rfl ?_
  refine r_aload_n (dc_X8_copyOf 17 rfl) rfl rfl ?_
  obtain ⟨x9, e0, h⟩ := Option.bind_eq_some_iff.mp h
  refine r_getI (dc_X8_copyOf 18 rfl) fl_RX8_49 e0 ?_
  obtain ⟨s10, e0, h⟩ := Option.bind_eq_some_iff.mp h
  refine r_put (dc_X8_copyOf 19 rfl) pl_RX8_49 rfl e0 ?_
  refine r_aload_n (dc_X8_copyOf 20 rfl) rfl rfl ?_
  refine r_aload_n (dc_X8_copyOf 21 rfl) rfl rfl ?_
  obtain ⟨x11, e0, h⟩ := Option.bind_eq_some_iff.mp h
  refine r_getI (dc_X8_copyOf 22 rfl) fl_RX8_52 e0 ?_
  obtain ⟨s12, e0, h⟩ := Option.bind_eq_some_iff.mp h
  refine r_put (dc_X8_copyOf 23 rfl) pl_RX8_52 rfl e0 ?_
  refine r_aload_n (dc_X8_copyOf 24 rfl) rfl rfl ?_
  obtain ⟨p13, e0, h⟩ := Option.bind_eq_some_iff.mp h
  refine r_getR (dc_X8_copyOf 25 rfl) fl_RX8_18 e0 ?_
  refine r_aload_n (dc_X8_copyOf 26 rfl) rfl rfl ?_
  obtain ⟨p14, e0, h⟩ := Option.bind_eq_some_iff.mp h
  refine r_getR (dc_X8_copyOf 27 rfl) fl_RX8_18 e0 ?_
  obtain ⟨s15, e0, h⟩ := Option.bind_eq_some_iff.mp h
  refine r_callV (dc_X8_copyOf 28 rfl) mv_X2_copyOf ml_RX8_65 (As := [.ref p14]) (t_X2_copyOf (d := d - 1) hl (by omega) e0) (by omega) rfl (Nat.le_of_ble_eq_true rfl) ?_
  refine r_iconst (dc_X8_copyOf 29 rfl) kiconst_0 ?_
  refine r_istore_n (dc_X8_copyOf 30 rfl) rfl (by decide) (lo' := [(2, .int (0 : Int32)), (0, .ref a0), (1, .ref pa1)]) rfl ?_
  refine r_pick [1, 2, 0] (lo' := [(0, .ref a0), (1, .ref pa1), (2, .int (0 : Int32))]) rfl ?_
  refine l_X8_copyOf_L61 hl hd (hk102 := ?_) fu _ _ h
  · intro s26 h
    refine r_iconst (dc_X8_copyOf 54 rfl) kiconst_0 ?_
    refine r_istore_n (dc_X8_copyOf 55 rfl) rfl (by decide) (lo' := [(2, .int (0 : Int32)), (0, .ref a0), (1, .ref pa1)]) rfl ?_
    refine r_pick [1, 2, 0] (lo' := [(0, .ref a0), (1, .ref pa1), (2, .int (0 : Int32))]) rfl ?_
    refine l_X8_copyOf_L104 hl hd (hk143 := ?_) fu _ _ h
    · intro s36 h
      cases h
      exact r_vreturn (dc_X8_copyOf 78 rfl) rfl
theorem t_X8_canPost {G : Gx} {d : Nat} (hl : G.1.stackTraces = false) (hd : 2 ≤ d) {σ : Sto} {a0 : Nat} {xa1 : Int32} {xa2 : Int32} {r : Int32} (h : F_X8_canPost σ a0 xa1 xa2 = some r) : Mi G d m_X8_canPost 8 a0 [.int xa1, .int xa2] σ (.inl (some (.int r))) σ := by
  rw [F_X8_canPost] at h
  obtain ⟨hg, h⟩ := chk_some h
  refine ⟨J.toMt (lo := [(0, .ref a0), (1, .int xa1), (2, .int xa2)]) pn_RX8 rfl hl (Nat.le_of_ble_eq_true rfl) rfl ?_, hg⟩
  refine r_aload_n (dc_X8_canPost 0 rfl) rfl rfl ?_
  refine r_iload_n (dc_X8_canPost 1 rfl) rfl rfl ?_
  refine r_iload_n (dc_X8_canPost 2 rfl) rfl rfl ?_
  obtain ⟨p1, e0, h⟩ := Option.bind_eq_some_iff.mp h
  refine r_callV (dc_X8_canPost 3 rfl) mv_X8_row ml_RX8_79 (As := [.int xa1, .int xa2]) (t_X8_row (d := d - 1) hl (by omega) e0) (by omega) rfl (Nat.le_of_ble_eq_true rfl) ?_
  obtain ⟨x2, e0, h⟩ := Option.bind_eq_some_iff.mp h
  refine r_callV (dc_X8_canPost 4 rfl) mv_X4_isFull ml_RX8_83 (As := []) (t_X4_isFull (d := d - 1) hl (by omega) e0) (by omega) rfl (Nat.le_of_ble_eq_true rfl) ?_
  refine r_if_ne (dc_X8_canPost 5 rfl) (tgt := 25) (by decide) (fun c0 => ?_) (fun c0 => ?_)
  · rw [if_neg c0] at h
    refine r_iconst (dc_X8_canPost 13 rfl) kiconst_0 ?_
    cases h
    exact r_zreturn (dc_X8_canPost 14 rfl) rfl (Or.inl rfl)
  · rw [if_pos c0] at h
    refine r_aload_n (dc_X8_canPost 6 rfl) rfl rfl ?_
    refine r_iload_n (dc_X8_canPost 7 rfl) rfl rfl ?_
    refine r_iload_n (dc_X8_canPost 8 rfl) rfl rfl ?_
    obtain ⟨x3, e0, h⟩ := Option.bind_eq_some_iff.mp h
    refine r_callV (dc_X8_canPost 9 rfl) mv_X8_isCut ml_RX8_87 (As := [.int xa1, .int xa2]) (t_X8_isCut (d := d - 1) hl (by omega) e0) (by omega) rfl (Nat.le_of_ble_eq_true rfl) ?_
    refine r_if_ne (dc_X8_canPost 10 rfl) (tgt := 25) (by decide) (fun c0 => ?_) (fun c0 => ?_)
    · rw [if_neg c0] at h
      refine r_iconst (dc_X8_canPost 13 rfl) kiconst_0 ?_
      cases h
      exact r_zreturn (dc_X8_canPost 14 rfl) rfl (Or.inl rfl)
    · rw [if_pos c0] at h
      refine r_iconst (dc_X8_canPost 11 rfl) kiconst_1 ?_
      refine r_goto (dc_X8_canPost 12 rfl) (tgt := 26) (by decide) ?_
      cases h
      exact r_zreturn (dc_X8_canPost 14 rfl) rfl (Or.inr rfl)
theorem t_X8_happen {G : Gx} {d : Nat} (hl : G.1.stackTraces = false) (hd : 3 ≤ d) {σ : Sto} {a0 : Nat} {xa1 : Int32} {xa2 : Int32} {xa3 : Int32} {r : (Int32 × Sto)} (h : F_X8_happen σ a0 xa1 xa2 xa3 = some r) : Mi G d m_X8_happen 8 a0 [.int xa1, .int xa2, .int xa3] σ (.inl (some (.int r.1))) r.2 := by
  rw [F_X8_happen] at h
  obtain ⟨hg, h⟩ := chk_some h
  refine ⟨J.toMt (lo := [(0, .ref a0), (1, .int xa1), (2, .int xa2), (3, .int xa3)]) pn_RX8 rfl hl (Nat.le_of_ble_eq_true rfl) rfl ?_, hg⟩
  refine r_aload_n (dc_X8_happen 0 rfl) rfl rfl ?_
  refine r_dup (dc_X8_happen 1 rfl) rfl ?_
  obtain ⟨x1, e0, h⟩ := Option.bind_eq_some_iff.mp h
  refine r_getI (dc_X8_happen 2 rfl) fl_RX8_43 e0 ?_
  refine r_iconst (dc_X8_happen 3 rfl) kiconst_1 ?_
  refine r_iadd (dc_X8_happen 4 rfl) ?_
  obtain ⟨s2, e0, h⟩ := Option.bind_eq_some_iff.mp h
  refine r_put (dc_X8_happen 5 rfl) pl_RX8_43 rfl e0 ?_
  refine r_aload_n (dc_X8_happen 6 rfl) rfl rfl ?_
  obtain ⟨p3, e0, h⟩ := Option.bind_eq_some_iff.mp h
  refine r_getR (dc_X8_happen 7 rfl) fl_RX8_18 e0 ?_
  refine r_iload_n (dc_X8_happen 8 rfl) rfl rfl ?_
  refine r_iload_n (dc_X8_happen 9 rfl) rfl rfl ?_
  refine r_iload_n (dc_X8_happen 10 rfl) rfl rfl ?_
  refine r_aload_n (dc_X8_happen 11 rfl) rfl rfl ?_
  obtain ⟨x4, e0, h⟩ := Option.bind_eq_some_iff.mp h
  refine r_getI (dc_X8_happen 12 rfl) fl_RX8_43 e0 ?_
  refine r_aload_n (dc_X8_happen 13 rfl) rfl rfl ?_
  obtain ⟨p5, e0, h⟩ := Option.bind_eq_some_iff.mp h
  refine r_getR (dc_X8_happen 14 rfl) fl_RX8_24 e0 ?_
  refine r_iload_n (dc_X8_happen 15 rfl) rfl rfl ?_
  obtain ⟨p6, e0, h⟩ := Option.bind_eq_some_iff.mp h
  refine r_aaldR (dc_X8_happen 16 rfl) (kd := 4) rfl e0 ?_
  obtain ⟨p7, e0, h⟩ := Option.bind_eq_some_iff.mp h
  refine r_getR (dc_X8_happen 17 rfl) fl_RX8_113 e0 ?_
  obtain ⟨x9, s8, e0, h⟩ := wb_some h
  refine r_callV (dc_X8_happen 18 rfl) mv_X2_append ml_RX8_116 (As := [.int xa1, .int xa2, .int xa3, .int x4, .ref p7]) (t_X2_append (d := d - 1) hl (by omega) e0) (by omega) rfl (Nat.le_of_ble_eq_true rfl) ?_
  refine r_istore (dc_X8_happen 19 rfl) (by decide) (lo' := [(4, .int x9), (0, .ref a0), (1, .int xa1), (2, .int xa2), (3, .int xa3)]) rfl ?_
  refine r_aload_n (dc_X8_happen 20 rfl) rfl rfl ?_
  obtain ⟨p10, e0, h⟩ := Option.bind_eq_some_iff.mp h
  refine r_getR (dc_X8_happen 21 rfl) fl_RX8_24 e0 ?_
  refine r_iload_n (dc_X8_happen 22 rfl) rfl rfl ?_
  obtain ⟨p11, e0, h⟩ := Option.bind_eq_some_iff.mp h
  refine r_aaldR (dc_X8_happen 23 rfl) (kd := 4) rfl e0 ?_
  refine r_aload_n (dc_X8_happen 24 rfl) rfl rfl ?_
  obtain ⟨p12, e0, h⟩ := Option.bind_eq_some_iff.mp h
  refine r_getR (dc_X8_happen 25 rfl) fl_RX8_18 e0 ?_
  refine r_iload (dc_X8_happen 26 rfl) rfl ?_
  obtain ⟨s13, e0, h⟩ := Option.bind_eq_some_iff.mp h
  refine r_callV (dc_X8_happen 27 rfl) mv_X6_ownEvent ml_RX8_120 (As := [.ref p12, .int x9]) (t_X6_ownEvent (d := d - 1) hl (by omega) e0) (by omega) rfl (Nat.le_of_ble_eq_true rfl) ?_
  refine r_iload (dc_X8_happen 28 rfl) rfl ?_
  cases h
  exact r_ireturn (dc_X8_happen 29 rfl) rfl
theorem t_X8_bringIn {G : Gx} {d : Nat} (hl : G.1.stackTraces = false) (hd : 4 ≤ d) {σ : Sto} {a0 : Nat} {xa1 : Int32} {xa2 : Int32} {r : (Int32 × Sto)} (h : F_X8_bringIn σ a0 xa1 xa2 = some r) : Mi G d m_X8_bringIn 8 a0 [.int xa1, .int xa2] σ (.inl (some (.int r.1))) r.2 := by
  rw [F_X8_bringIn] at h
  obtain ⟨hg, h⟩ := chk_some h
  refine ⟨J.toMt (lo := [(0, .ref a0), (1, .int xa1), (2, .int xa2)]) pn_RX8 rfl hl (Nat.le_of_ble_eq_true rfl) rfl ?_, hg⟩
  refine r_aload_n (dc_X8_bringIn 0 rfl) rfl rfl ?_
  refine r_iload_n (dc_X8_bringIn 1 rfl) rfl rfl ?_
  refine r_aload_n (dc_X8_bringIn 2 rfl) rfl rfl ?_
  obtain ⟨p1, e0, h⟩ := Option.bind_eq_some_iff.mp h
  refine r_getR (dc_X8_bringIn 3 rfl) fl_RX8_18 e0 ?_
  obtain ⟨x2, e0, h⟩ := Option.bind_eq_some_iff.mp h
  refine r_getI (dc_X8_bringIn 4 rfl) fl_RX8_91 e0 ?_
  refine r_iload_n (dc_X8_bringIn 5 rfl) rfl rfl ?_
  obtain ⟨x4, s3, e0, h⟩ := wb_some h
  refine r_callV (dc_X8_bringIn 6 rfl) mv_X8_happen ml_RX8_92 (As := [.int xa1, .int x2, .int xa2]) (t_X8_happen (d := d - 1) hl (by omega) e0) (by omega) rfl (Nat.le_of_ble_eq_true rfl) ?_
  refine r_istore_n (dc_X8_bringIn 7 rfl) rfl (by decide) (lo' := [(3, .int x4), (0, .ref a0), (1, .int xa1), (2, .int xa2)]) rfl ?_
  refine r_aload_n (dc_X8_bringIn 8 rfl) rfl rfl ?_
  obtain ⟨p5, e0, h⟩ := Option.bind_eq_some_iff.mp h
  refine r_getR (dc_X8_bringIn 9 rfl) fl_RX8_24 e0 ?_
  refine r_iload_n (dc_X8_bringIn 10 rfl) rfl rfl ?_
  obtain ⟨p6, e0, h⟩ := Option.bind_eq_some_iff.mp h
  refine r_aaldR (dc_X8_bringIn 11 rfl) (kd := 4) rfl e0 ?_
  obtain ⟨p7, e0, h⟩ := Option.bind_eq_some_iff.mp h
  refine r_getR (dc_X8_bringIn 12 rfl) fl_RX8_96 e0 ?_
  refine r_iload_n (dc_X8_bringIn 13 rfl) rfl rfl ?_
  obtain ⟨s8, e0, h⟩ := Option.bind_eq_some_iff.mp h
  refine r_callV (dc_X8_bringIn 14 rfl) mv_X1_insert ml_RX8_100 (As := [.int x4]) (t_X1_insert (d := d - 1) hl (by omega) e0) (by omega) rfl (Nat.le_of_ble_eq_true rfl) ?_
  refine r_iload_n (dc_X8_bringIn 15 rfl) rfl rfl ?_
  cases h
  exact r_ireturn (dc_X8_bringIn 16 rfl) rfl
theorem t_X8_takeOut {G : Gx} {d : Nat} (hl : G.1.stackTraces = false) (hd : 4 ≤ d) {σ : Sto} {a0 : Nat} {xa1 : Int32} {xa2 : Int32} {r : (Int32 × Sto)} (h : F_X8_takeOut σ a0 xa1 xa2 = some r) : Mi G d m_X8_takeOut 8 a0 [.int xa1, .int xa2] σ (.inl (some (.int r.1))) r.2 := by
  rw [F_X8_takeOut] at h
  obtain ⟨hg, h⟩ := chk_some h
  refine ⟨J.toMt (lo := [(0, .ref a0), (1, .int xa1), (2, .int xa2)]) pn_RX8 rfl hl (Nat.le_of_ble_eq_true rfl) rfl ?_, hg⟩
  refine r_aload_n (dc_X8_takeOut 0 rfl) rfl rfl ?_
  refine r_iload_n (dc_X8_takeOut 1 rfl) rfl rfl ?_
  refine r_iload_n (dc_X8_takeOut 2 rfl) rfl rfl ?_
  refine r_aload_n (dc_X8_takeOut 3 rfl) rfl rfl ?_
  obtain ⟨p1, e0, h⟩ := Option.bind_eq_some_iff.mp h
  refine r_getR (dc_X8_takeOut 4 rfl) fl_RX8_18 e0 ?_
  obtain ⟨p2, e0, h⟩ := Option.bind_eq_some_iff.mp h
  refine r_getR (dc_X8_takeOut 5 rfl) fl_RX8_106 e0 ?_
  refine r_iload_n (dc_X8_takeOut 6 rfl) rfl rfl ?_
  obtain ⟨x3, e0, h⟩ := Option.bind_eq_some_iff.mp h
  refine r_iald (dc_X8_takeOut 7 rfl) e0 ?_
  obtain ⟨x5, s4, e0, h⟩ := wb_some h
  refine r_callV (dc_X8_takeOut 8 rfl) mv_X8_happen ml_RX8_92 (As := [.int xa1, .int xa2, .int x3]) (t_X8_happen (d := d - 1) hl (by omega) e0) (by omega) rfl (Nat.le_of_ble_eq_true rfl) ?_
  refine r_istore_n (dc_X8_takeOut 9 rfl) rfl (by decide) (lo' := [(3, .int x5), (0, .ref a0), (1, .int xa1), (2, .int xa2)]) rfl ?_
  refine r_aload_n (dc_X8_takeOut 10 rfl) rfl rfl ?_
  obtain ⟨p6, e0, h⟩ := Option.bind_eq_some_iff.mp h
  refine r_getR (dc_X8_takeOut 11 rfl) fl_RX8_24 e0 ?_
  refine r_iload_n (dc_X8_takeOut 12 rfl) rfl rfl ?_
  obtain ⟨p7, e0, h⟩ := Option.bind_eq_some_iff.mp h
  refine r_aaldR (dc_X8_takeOut 13 rfl) (kd := 4) rfl e0 ?_
  obtain ⟨p8, e0, h⟩ := Option.bind_eq_some_iff.mp h
  refine r_getR (dc_X8_takeOut 14 rfl) fl_RX8_96 e0 ?_
  refine r_iload_n (dc_X8_takeOut 15 rfl) rfl rfl ?_
  obtain ⟨s9, e0, h⟩ := Option.bind_eq_some_iff.mp h
  refine r_callV (dc_X8_takeOut 16 rfl) mv_X1_remove ml_RX8_110 (As := [.int xa2]) (t_X1_remove (d := d - 1) hl (by omega) e0) (by omega) rfl (Nat.le_of_ble_eq_true rfl) ?_
  refine r_iload_n (dc_X8_takeOut 17 rfl) rfl rfl ?_
  cases h
  exact r_ireturn (dc_X8_takeOut 18 rfl) rfl
theorem t_X8_post {G : Gx} {d : Nat} (hl : G.1.stackTraces = false) (hd : 5 ≤ d) {σ : Sto} {a0 : Nat} {xa1 : Int32} {xa2 : Int32} {r : (Int32 × Sto)} (h : F_X8_post σ a0 xa1 xa2 = some r) : Mi G d m_X8_post 8 a0 [.int xa1, .int xa2] σ (.inl (some (.int r.1))) r.2 := by
  rw [F_X8_post] at h
  obtain ⟨hg, h⟩ := chk_some h
  refine ⟨J.toMt (lo := [(0, .ref a0), (1, .int xa1), (2, .int xa2)]) pn_RX8 rfl hl (Nat.le_of_ble_eq_true rfl) rfl ?_, hg⟩
  refine r_aload_n (dc_X8_post 0 rfl) rfl rfl ?_
  refine r_dup (dc_X8_post 1 rfl) rfl ?_
  obtain ⟨x1, e0, h⟩ := Option.bind_eq_some_iff.mp h
  refine r_getI (dc_X8_post 2 rfl) fl_RX8_43 e0 ?_
  refine r_iconst (dc_X8_post 3 rfl) kiconst_1 ?_
  refine r_iadd (dc_X8_post 4 rfl) ?_
  obtain ⟨s2, e0, h⟩ := Option.bind_eq_some_iff.mp h
  refine r_put (dc_X8_post 5 rfl) pl_RX8_43 rfl e0 ?_
  refine r_aload_n (dc_X8_post 6 rfl) rfl rfl ?_
  refine r_iload_n (dc_X8_post 7 rfl) rfl rfl ?_
  refine r_iload_n (dc_X8_post 8 rfl) rfl rfl ?_
  obtain ⟨p3, e0, h⟩ := Option.bind_eq_some_iff.mp h
  refine r_callV (dc_X8_post 9 rfl) mv_X8_row ml_RX8_79 (As := [.int xa1, .int xa2]) (t_X8_row (d := d - 1) hl (by omega) e0) (by omega) rfl (Nat.le_of_ble_eq_true rfl) ?_
  obtain ⟨p5, s4, e0, h⟩ := wb_some h
  refine r_callV (dc_X8_post 10 rfl) mv_X4_append ml_RX8_124 (As := []) (t_X4_append (d := d - 1) hl (by omega) e0) (by omega) rfl (Nat.le_of_ble_eq_true rfl) ?_
  refine r_astore_n (dc_X8_post 11 rfl) rfl (by decide) (lo' := [(3, .ref p5), (0, .ref a0), (1, .int xa1), (2, .int xa2)]) rfl ?_
  refine r_aload_n (dc_X8_post 12 rfl) rfl rfl ?_
  refine r_aload_n (dc_X8_post 13 rfl) rfl rfl ?_
  obtain ⟨p6, e0, h⟩ := Option.bind_eq_some_iff.mp h
  refine r_getR (dc_X8_post 14 rfl) fl_RX8_24 e0 ?_
  refine r_iload_n (dc_X8_post 15 rfl) rfl rfl ?_
  obtain ⟨p7, e0, h⟩ := Option.bind_eq_some_iff.mp h
  refine r_aaldR (dc_X8_post 16 rfl) (kd := 4) rfl e0 ?_
  refine r_aload_n (dc_X8_post 17 rfl) rfl rfl ?_
  obtain ⟨p8, e0, h⟩ := Option.bind_eq_some_iff.mp h
  refine r_getR (dc_X8_post 18 rfl) fl_RX8_18 e0 ?_
  refine r_iload_n (dc_X8_post 19 rfl) rfl rfl ?_
  refine r_iload_n (dc_X8_post 20 rfl) rfl rfl ?_
  refine r_aload_n (dc_X8_post 21 rfl) rfl rfl ?_
  obtain ⟨x9, e0, h⟩ := Option.bind_eq_some_iff.mp h
  refine r_getI (dc_X8_post 22 rfl) fl_RX8_62 e0 ?_
  obtain ⟨s10, e0, h⟩ := Option.bind_eq_some_iff.mp h
  refine r_callV (dc_X8_post 23 rfl) mv_X3_compose ml_RX8_127 (As := [.ref p7, .ref p8, .int xa1, .int xa2, .int x9]) (t_X3_compose (d := d - 1) hl (by omega) e0) (by omega) rfl (Nat.le_of_ble_eq_true rfl) ?_
  refine r_aload_n (dc_X8_post 24 rfl) rfl rfl ?_
  refine r_dup (dc_X8_post 25 rfl) rfl ?_
  obtain ⟨x11, e0, h⟩ := Option.bind_eq_some_iff.mp h
  refine r_getI (dc_X8_post 26 rfl) fl_RX8_46 e0 ?_
  refine r_iconst (dc_X8_post 27 rfl) kiconst_1 ?_
  refine r_iadd (dc_X8_post 28 rfl) ?_
  obtain ⟨s12, e0, h⟩ := Option.bind_eq_some_iff.mp h
  refine r_put (dc_X8_post 29 rfl) pl_RX8_46 rfl e0 ?_
  refine r_aload_n (dc_X8_post 30 rfl) rfl rfl ?_
  refine r_dup (dc_X8_post 31 rfl) rfl ?_
  obtain ⟨x13, e0, h⟩ := Option.bind_eq_some_iff.mp h
  refine r_getI (dc_X8_post 32 rfl) fl_RX8_49 e0 ?_
  refine r_aload_n (dc_X8_post 33 rfl) rfl rfl ?_
  obtain ⟨x14, e0, h⟩ := Option.bind_eq_some_iff.mp h
  refine r_getI (dc_X8_post 34 rfl) fl_RX8_133 e0 ?_
  refine r_iadd (dc_X8_post 35 rfl) ?_
  obtain ⟨s15, e0, h⟩ := Option.bind_eq_some_iff.mp h
  refine r_put (dc_X8_post 36 rfl) pl_RX8_49 rfl e0 ?_
  refine r_aload_n (dc_X8_post 37 rfl) rfl rfl ?_
  obtain ⟨x16, e0, h⟩ := Option.bind_eq_some_iff.mp h
  refine r_getI (dc_X8_post 38 rfl) fl_RX8_133 e0 ?_
  cases h
  exact r_ireturn (dc_X8_post 39 rfl) rfl
