theorem t_X0_init {G : Gx} {d : Nat} (hl : G.1.stackTraces = false) (hd : 1 ≤ d) {σ : Sto} {a0 : Nat} {pa1 : Nat} {r : Sto} (h : F_X0_init σ a0 pa1 = some r) : Mt G d m_X0_init [Value.ref a0, .ref pa1] σ (.inl none) r := by
  rw [F_X0_init] at h
  refine J.toMt (lo := [(0, .ref a0), (1, .ref pa1)]) pn_RX0 rfl hl (Nat.le_of_ble_eq_true rfl) rfl ?_
  refine r_aload_n (dc_X0_init 0 rfl) rfl rfl ?_
  refine r_objInit (dc_X0_init 1 rfl) ml_RX0_5 w_obj1 w_obj2 (by omega) (Nat.le_of_ble_eq_true rfl) ?_
  refine r_aload_n (dc_X0_init 2 rfl) rfl rfl ?_
  refine r_bipush (dc_X0_init 3 rfl) kbipush_6 ?_
  obtain ⟨p2, s1, ev, es, h⟩ := nw_some h
  refine r_newI (dc_X0_init 4 rfl) ac_int (by decide) (by decide +kernel) ?_
  rw [← ev, ← es]
  obtain ⟨s3, e0, h⟩ := Option.bind_eq_some_iff.mp h
  refine r_putX (dc_X0_init 5 rfl) pl_RX0_11 (Or.inr ⟨rfl, fun q hq => by cases hq; rfl⟩) rfl e0 ?_
  refine r_aload_n (dc_X0_init 6 rfl) rfl rfl ?_
  refine r_bipush (dc_X0_init 7 rfl) kbipush_6 ?_
  obtain ⟨p5, s4, ev, es, h⟩ := nw_some h
  refine r_newI (dc_X0_init 8 rfl) ac_int (by decide) (by decide +kernel) ?_
  rw [← ev, ← es]
  obtain ⟨s6, e0, h⟩ := Option.bind_eq_some_iff.mp h
  refine r_putX (dc_X0_init 9 rfl) pl_RX0_15 (Or.inr ⟨rfl, fun q hq => by cases hq; rfl⟩) rfl e0 ?_
  refine r_aload_n (dc_X0_init 10 rfl) rfl rfl ?_
  refine r_bipush (dc_X0_init 11 rfl) kbipush_28 ?_
  obtain ⟨p8, s7, ev, es, h⟩ := nw_some h
  refine r_newI (dc_X0_init 12 rfl) ac_int (by decide) (by decide +kernel) ?_
  rw [← ev, ← es]
  obtain ⟨s9, e0, h⟩ := Option.bind_eq_some_iff.mp h
  refine r_putX (dc_X0_init 13 rfl) pl_RX0_18 (Or.inr ⟨rfl, fun q hq => by cases hq; rfl⟩) rfl e0 ?_
  refine r_aload_n (dc_X0_init 14 rfl) rfl rfl ?_
  refine r_aload_n (dc_X0_init 15 rfl) rfl rfl ?_
  obtain ⟨s10, e0, h⟩ := Option.bind_eq_some_iff.mp h
  refine r_putX (dc_X0_init 16 rfl) pl_RX0_21 (Or.inr ⟨rfl, fun q hq => by cases hq; rfl⟩) rfl e0 ?_
  cases h
  exact r_vreturn (dc_X0_init 17 rfl) rfl
theorem t_X0_told {G : Gx} {d : Nat} (hl : G.1.stackTraces = false) (hd : 0 ≤ d) {σ : Sto} {a0 : Nat} {xa1 : Int32} {r : Int32} (h : F_X0_told σ a0 xa1 = some r) : Mi G d m_X0_told 0 a0 [.int xa1] σ (.inl (some (.int r))) σ := by
  rw [F_X0_told] at h
  obtain ⟨hg, h⟩ := chk_some h
  refine ⟨J.toMt (lo := [(0, .ref a0), (1, .int xa1)]) pn_RX0 rfl hl (Nat.le_of_ble_eq_true rfl) rfl ?_, hg⟩
  refine r_bipush (dc_X0_told 0 rfl) kbipush_10 ?_
  refine r_aload_n (dc_X0_told 1 rfl) rfl rfl ?_
  obtain ⟨p1, e0, h⟩ := Option.bind_eq_some_iff.mp h
  refine r_getR (dc_X0_told 2 rfl) fl_RX0_11 e0 ?_
  refine r_iload_n (dc_X0_told 3 rfl) rfl rfl ?_
  obtain ⟨x2, e0, h⟩ := Option.bind_eq_some_iff.mp h
  refine r_iald (dc_X0_told 4 rfl) e0 ?_
  refine r_imul (dc_X0_told 5 rfl) ?_
  refine r_aload_n (dc_X0_told 6 rfl) rfl rfl ?_
  obtain ⟨p3, e0, h⟩ := Option.bind_eq_some_iff.mp h
  refine r_getR (dc_X0_told 7 rfl) fl_RX0_15 e0 ?_
  refine r_iload_n (dc_X0_told 8 rfl) rfl rfl ?_
  obtain ⟨x4, e0, h⟩ := Option.bind_eq_some_iff.mp h
  refine r_iald (dc_X0_told 9 rfl) e0 ?_
  refine r_iadd (dc_X0_told 10 rfl) ?_
  cases h
  exact r_ireturn (dc_X0_told 11 rfl) rfl
theorem t_X1_holds {G : Gx} {d : Nat} (hl : G.1.stackTraces = false) (hd : 0 ≤ d) {σ : Sto} {a0 : Nat} {xa1 : Int32} {r : Int32} (h : F_X1_holds σ a0 xa1 = some r) : Mi G d m_X1_holds 1 a0 [.int xa1] σ (.inl (some (.int r))) σ := by
  rw [F_X1_holds] at h
  obtain ⟨hg, h⟩ := chk_some h
  refine ⟨J.toMt (lo := [(0, .ref a0), (1, .int xa1)]) pn_RX1 rfl hl (Nat.le_of_ble_eq_true rfl) rfl ?_, hg⟩
  refine r_iload_n (dc_X1_holds 0 rfl) rfl rfl ?_
  refine r_bipush (dc_X1_holds 1 rfl) kbipush_64 ?_
  refine jn_elim h (Q := fun (j : Int64 → Option Int32) => ∀ (y2 : Int64), j y2 = some r → J G d m_X1_holds 24 [] [.long y2] σ (.inl (some (.int r))) σ) ?_ (fun j1 hj1 h => ?_)
  · intro y2 h
    refine r_lstore_n (dc_X1_holds 14 rfl) rfl (by decide) (lo' := [(2, .long y2)]) rfl ?_
    refine r_lload_n (dc_X1_holds 15 rfl) rfl rfl ?_
    refine r_lconst (dc_X1_holds 16 rfl) klconst_1 ?_
    refine r_land (dc_X1_holds 17 rfl) ?_
    refine r_lconst (dc_X1_holds 18 rfl) klconst_0 ?_
    refine r_lcmp (dc_X1_holds 19 rfl) ?_
    refine r_if_eq (dc_X1_holds 20 rfl) (tgt := 37) (by decide) (fun c0 => ?_) (fun c0 => ?_)
    · rw [if_pos c0] at h
      refine r_iconst (dc_X1_holds 23 rfl) kiconst_0 ?_
      cases h
      exact r_zreturn (dc_X1_holds 24 rfl) rfl (Or.inl rfl)
    · rw [if_neg c0] at h
      refine r_iconst (dc_X1_holds 21 rfl) kiconst_1 ?_
      refine r_goto (dc_X1_holds 22 rfl) (tgt := 38) (by decide) ?_
      cases h
      exact r_zreturn (dc_X1_holds 24 rfl) rfl (Or.inr rfl)
  refine r_icmp_ge (dc_X1_holds 2 rfl) (tgt := 15) (by decide) (fun c0 => ?_) (fun c0 => ?_)
  · rw [if_pos c0] at h
    refine r_aload_n (dc_X1_holds 8 rfl) rfl rfl ?_
    obtain ⟨y3, e0, h⟩ := Option.bind_eq_some_iff.mp h
    refine r_getL (dc_X1_holds 9 rfl) fl_RX1_15 e0 ?_
    refine r_iload_n (dc_X1_holds 10 rfl) rfl rfl ?_
    refine r_bipush (dc_X1_holds 11 rfl) kbipush_64 ?_
    refine r_isub (dc_X1_holds 12 rfl) ?_
    refine r_lushr (dc_X1_holds 13 rfl) ?_
    refine r_pick [] (lo' := []) rfl ?_
    exact hj1 _ h
  · rw [if_neg c0] at h
    refine r_aload_n (dc_X1_holds 3 rfl) rfl rfl ?_
    obtain ⟨y4, e0, h⟩ := Option.bind_eq_some_iff.mp h
    refine r_getL (dc_X1_holds 4 rfl) fl_RX1_9 e0 ?_
    refine r_iload_n (dc_X1_holds 5 rfl) rfl rfl ?_
    refine r_lushr (dc_X1_holds 6 rfl) ?_
    refine r_goto (dc_X1_holds 7 rfl) (tgt := 24) (by decide) ?_
    refine r_pick [] (lo' := []) rfl ?_
    exact hj1 _ h
theorem l_X0_findKinds_L25 {G : Gx} {d : Nat} (hl : G.1.stackTraces = false) (hd : 1 ≤ d) {sL : Sto} {pL0 : Nat} {xL1 : Int32} {r : Sto} {k67 : Int32 → Option Sto}
    (hk67 : ∀ (xL2 : Int32), k67 xL2 = some r → J G d m_X0_findKinds 67 [(0, .ref pL0), (1, .int xL1), (2, .int xL2)] [] sL (.inl none) r)
  : ∀ (f : Nat) (xL2 : Int32) (xL3 : Int32), F_X0_findKinds_L25 sL pL0 xL1 f xL2 xL3 k67 = some r → J G d m_X0_findKinds 25 [(0, .ref pL0), (1, .int xL1), (2, .int xL2), (3, .int xL3)] [] sL (.inl none) r := by
  intro f
  induction f with
  | zero => intro xL2 xL3 h; rw [F_X0_findKinds_L25] at h; cases h
  | succ f ih =>
    intro xL2 xL3 h
    rw [F_X0_findKinds_L25] at h
    refine r_iload_n (dc_X0_findKinds 15 rfl) rfl rfl ?_
    refine r_aload_n (dc_X0_findKinds 16 rfl) rfl rfl ?_
    obtain ⟨p5, e0, h⟩ := Option.bind_eq_some_iff.mp h
    refine r_getR (dc_X0_findKinds 17 rfl) fl_RX0_21 e0 ?_
    obtain ⟨x6, e0, h⟩ := Option.bind_eq_some_iff.mp h
    refine r_getI (dc_X0_findKinds 18 rfl) fl_RX0_29 e0 ?_
    refine r_icmp_ge (dc_X0_findKinds 19 rfl) (tgt := 67) (by decide) (fun c0 => ?_) (fun c0 => ?_)
    · rw [if_pos c0] at h
      refine r_pick [0, 1, 2] (lo' := [(0, .ref pL0), (1, .int xL1), (2, .int xL2)]) rfl ?_
      exact hk67 _ h
    · rw [if_neg c0] at h
      refine r_aload_n (dc_X0_findKinds 20 rfl) rfl rfl ?_
      obtain ⟨p7, e0, h⟩ := Option.bind_eq_some_iff.mp h
      refine r_getR (dc_X0_findKinds 21 rfl) fl_RX0_21 e0 ?_
      obtain ⟨p8, e0, h⟩ := Option.bind_eq_some_iff.mp h
      refine r_getR (dc_X0_findKinds 22 rfl) fl_RX0_61 e0 ?_
      refine r_iload_n (dc_X0_findKinds 23 rfl) rfl rfl ?_
      obtain ⟨p9, e0, h⟩ := Option.bind_eq_some_iff.mp h
      refine r_aaldR (dc_X0_findKinds 24 rfl) (kd := 4) rfl e0 ?_
      obtain ⟨p10, e0, h⟩ := Option.bind_eq_some_iff.mp h
      refine r_getR (dc_X0_findKinds 25 rfl) fl_RX0_65 e0 ?_
      refine r_iload_n (dc_X0_findKinds 26 rfl) rfl rfl ?_
      obtain ⟨x11, e0, h⟩ := Option.bind_eq_some_iff.mp h
      refine r_callV (dc_X0_findKinds 27 rfl) mv_X1_holds ml_RX0_71 (As := [.int xL1]) (t_X1_holds (d := d - 1) hl (by omega) e0) (by omega) rfl (Nat.le_of_ble_eq_true rfl) ?_
      refine r_if_eq (dc_X0_findKinds 28 rfl) (tgt := 61) (by decide) (fun c0 => ?_) (fun c0 => ?_)
      · rw [if_pos c0] at h
        refine r_iinc (dc_X0_findKinds 35 rfl) rfl (kinc_1 _) (by decide) (lo' := [(3, .int (xL3 + (1 : Int32))), (0, .ref pL0), (1, .int xL1), (2, .int xL2)]) rfl ?_
        refine r_goto (dc_X0_findKinds 36 rfl) (tgt := 25) (by decide) ?_
        refine r_pick [1, 2, 3, 0] (lo' := [(0, .ref pL0), (1, .int xL1), (2, .int xL2), (3, .int (xL3 + (1 : Int32)))]) rfl ?_
        exact ih _ _ h
      · rw [if_neg c0] at h
        refine r_iload_n (dc_X0_findKinds 29 rfl) rfl rfl ?_
        refine r_iconst (dc_X0_findKinds 30 rfl) kiconst_1 ?_
        refine r_iload_n (dc_X0_findKinds 31 rfl) rfl rfl ?_
        refine r_ishl (dc_X0_findKinds 32 rfl) ?_
        refine r_ior (dc_X0_findKinds 33 rfl) ?_
        refine r_istore_n (dc_X0_findKinds 34 rfl) rfl (by decide) (lo' := [(2, .int (xL2 ||| ((1 : Int32) <<< (xL3 &&& 31)))), (0, .ref pL0), (1, .int xL1), (3, .int xL3)]) rfl ?_
        refine r_iinc (dc_X0_findKinds 35 rfl) rfl (kinc_1 _) (by decide) (lo' := [(3, .int (xL3 + (1 : Int32))), (2, .int (xL2 ||| ((1 : Int32) <<< (xL3 &&& 31)))), (0, .ref pL0), (1, .int xL1)]) rfl ?_
        refine r_goto (dc_X0_findKinds 36 rfl) (tgt := 25) (by decide) ?_
        refine r_pick [2, 3, 1, 0] (lo' := [(0, .ref pL0), (1, .int xL1), (2, .int (xL2 ||| ((1 : Int32) <<< (xL3 &&& 31)))), (3, .int (xL3 + (1 : Int32)))]) rfl ?_
        exact ih _ _ h
theorem l_X0_findKinds_L7 {G : Gx} {d : Nat} (hl : G.1.stackTraces = false) (hd : 1 ≤ d) {pL0 : Nat} {r : Sto} {k93 : Sto → Option Sto}
    (hk93 : ∀ (sL : Sto), k93 sL = some r → J G d m_X0_findKinds 93 [(0, .ref pL0)] [] sL (.inl none) r)
  : ∀ (f : Nat) (xL1 : Int32) (sL : Sto), F_X0_findKinds_L7 pL0 f xL1 sL k93 = some r → J G d m_X0_findKinds 7 [(0, .ref pL0), (1, .int xL1)] [] sL (.inl none) r := by
  intro f
  induction f with
  | zero => intro xL1 sL h; rw [F_X0_findKinds_L7] at h; cases h
  | succ f ih =>
    intro xL1 sL h
    rw [F_X0_findKinds_L7] at h
    refine r_iload_n (dc_X0_findKinds 5 rfl) rfl rfl ?_
    refine r_aload_n (dc_X0_findKinds 6 rfl) rfl rfl ?_
    obtain ⟨p2, e0, h⟩ := Option.bind_eq_some_iff.mp h
    refine r_getR (dc_X0_findKinds 7 rfl) fl_RX0_21 e0 ?_
    obtain ⟨p3, e0, h⟩ := Option.bind_eq_some_iff.mp h
    refine r_getR (dc_X0_findKinds 8 rfl) fl_RX0_52 e0 ?_
    obtain ⟨x4, e0, h⟩ := Option.bind_eq_some_iff.mp h
    refine r_getI (dc_X0_findKinds 9 rfl) fl_RX0_56 e0 ?_
    refine r_icmp_ge (dc_X0_findKinds 10 rfl) (tgt := 93) (by decide) (fun c0 => ?_) (fun c0 => ?_)
    · rw [if_pos c0] at h
      refine r_pick [0] (lo' := [(0, .ref pL0)]) rfl ?_
      exact hk93 _ h
    · rw [if_neg c0] at h
      refine r_iconst (dc_X0_findKinds 11 rfl) kiconst_0 ?_
      refine r_istore_n (dc_X0_findKinds 12 rfl) rfl (by decide) (lo' := [(2, .int (0 : Int32)), (0, .ref pL0), (1, .int xL1)]) rfl ?_
      refine r_iconst (dc_X0_findKinds 13 rfl) kiconst_0 ?_
      refine r_istore_n (dc_X0_findKinds 14 rfl) rfl (by decide) (lo' := [(3, .int (0 : Int32)), (2, .int (0 : Int32)), (0, .ref pL0), (1, .int xL1)]) rfl ?_
      refine r_pick [2, 3, 1, 0] (lo' := [(0, .ref pL0), (1, .int xL1), (2, .int (0 : Int32)), (3, .int (0 : Int32))]) rfl ?_
      refine l_X0_findKinds_L25 hl hd (hk67 := ?_) fu _ _ h
      · intro x12 h
        refine r_aload_n (dc_X0_findKinds 37 rfl) rfl rfl ?_
        refine r_dup (dc_X0_findKinds 38 rfl) rfl ?_
        obtain ⟨x13, e0, h⟩ := Option.bind_eq_some_iff.mp h
        refine r_getI (dc_X0_findKinds 39 rfl) fl_RX0_49 e0 ?_
        refine r_iload_n (dc_X0_findKinds 40 rfl) rfl rfl ?_
        refine r_if_ne (dc_X0_findKinds 41 rfl) (tgt := 80) (by decide) (fun c0 => ?_) (fun c0 => ?_)
        · rw [if_neg c0] at h
          refine r_iconst (dc_X0_findKinds 44 rfl) kiconst_1 ?_
          refine r_iload_n (dc_X0_findKinds 45 rfl) rfl rfl ?_
          refine r_ishl (dc_X0_findKinds 46 rfl) ?_
          refine r_ior (dc_X0_findKinds 47 rfl) ?_
          obtain ⟨s14, e0, h⟩ := Option.bind_eq_some_iff.mp h
          refine r_put (dc_X0_findKinds 48 rfl) pl_RX0_49 rfl e0 ?_
          refine r_iinc (dc_X0_findKinds 49 rfl) rfl (kinc_1 _) (by decide) (lo' := [(1, .int (xL1 + (1 : Int32))), (0, .ref pL0), (2, .int x12)]) rfl ?_
          refine r_goto (dc_X0_findKinds 50 rfl) (tgt := 7) (by decide) ?_
          refine r_pick [1, 0] (lo' := [(0, .ref pL0), (1, .int (xL1 + (1 : Int32)))]) rfl ?_
          exact ih _ _ h
        · rw [if_pos c0] at h
          refine r_iconst (dc_X0_findKinds 42 rfl) kiconst_0 ?_
          refine r_goto (dc_X0_findKinds 43 rfl) (tgt := 83) (by decide) ?_
          refine r_ior (dc_X0_findKinds 47 rfl) ?_
          obtain ⟨s15, e0, h⟩ := Option.bind_eq_some_iff.mp h
          refine r_put (dc_X0_findKinds 48 rfl) pl_RX0_49 rfl e0 ?_
          refine r_iinc (dc_X0_findKinds 49 rfl) rfl (kinc_1 _) (by decide) (lo' := [(1, .int (xL1 + (1 : Int32))), (0, .ref pL0), (2, .int x12)]) rfl ?_
          refine r_goto (dc_X0_findKinds 50 rfl) (tgt := 7) (by decide) ?_
          refine r_pick [1, 0] (lo' := [(0, .ref pL0), (1, .int (xL1 + (1 : Int32)))]) rfl ?_
          exact ih _ _ h
theorem l_X0_findKinds_L115 {G : Gx} {d : Nat} (hl : G.1.stackTraces = false) (hd : 1 ≤ d) {pL0 : Nat} {xL1 : Int32} {r : Sto} {k159 : Sto → Option Sto}
    (hk159 : ∀ (sL : Sto), k159 sL = some r → J G d m_X0_findKinds 159 [(0, .ref pL0), (1, .int xL1)] [] sL (.inl none) r)
  : ∀ (f : Nat) (xL2 : Int32) (sL : Sto), F_X0_findKinds_L115 pL0 xL1 f xL2 sL k159 = some r → J G d m_X0_findKinds 115 [(0, .ref pL0), (1, .int xL1), (2, .int xL2)] [] sL (.inl none) r := by
  intro f
  induction f with
  | zero => intro xL2 sL h; rw [F_X0_findKinds_L115] at h; cases h
  | succ f ih =>
    intro xL2 sL h
    rw [F_X0_findKinds_L115] at h
    refine r_iload_n (dc_X0_findKinds 65 rfl) rfl rfl ?_
    refine r_iconst (dc_X0_findKinds 66 rfl) kiconst_1 ?_
    refine r_aload_n (dc_X0_findKinds 67 rfl) rfl rfl ?_
    obtain ⟨p21, e0, h⟩ := Option.bind_eq_some_iff.mp h
    refine r_getR (dc_X0_findKinds 68 rfl) fl_RX0_21 e0 ?_
    obtain ⟨x22, e0, h⟩ := Option.bind_eq_some_iff.mp h
    refine r_getI (dc_X0_findKinds 69 rfl) fl_RX0_29 e0 ?_
    refine r_ishl (dc_X0_findKinds 70 rfl) ?_
    refine r_icmp_ge (dc_X0_findKinds 71 rfl) (tgt := 159) (by decide) (fun c0 => ?_) (fun c0 => ?_)
    · rw [if_pos c0] at h
      refine r_pick [0, 1] (lo' := [(0, .ref pL0), (1, .int xL1)]) rfl ?_
      exact hk159 _ h
    · rw [if_neg c0] at h
      refine r_iload_n (dc_X0_findKinds 72 rfl) rfl rfl ?_
      refine r_iload_n (dc_X0_findKinds 73 rfl) rfl rfl ?_
      refine r_ishr (dc_X0_findKinds 74 rfl) ?_
      refine r_iconst (dc_X0_findKinds 75 rfl) kiconst_1 ?_
      refine r_iand (dc_X0_findKinds 76 rfl) ?_
      refine r_if_eq (dc_X0_findKinds 77 rfl) (tgt := 153) (by decide) (fun c0 => ?_) (fun c0 => ?_)
      · rw [if_pos c0] at h
        refine r_iinc (dc_X0_findKinds 91 rfl) rfl (kinc_1 _) (by decide) (lo' := [(2, .int (xL2 + (1 : Int32))), (0, .ref pL0), (1, .int xL1)]) rfl ?_
        refine r_goto (dc_X0_findKinds 92 rfl) (tgt := 115) (by decide) ?_
        refine r_pick [1, 2, 0] (lo' := [(0, .ref pL0), (1, .int xL1), (2, .int (xL2 + (1 : Int32)))]) rfl ?_
        exact ih _ _ h
      · rw [if_neg c0] at h
        refine r_aload_n (dc_X0_findKinds 78 rfl) rfl rfl ?_
        obtain ⟨p23, e0, h⟩ := Option.bind_eq_some_iff.mp h
        refine r_getR (dc_X0_findKinds 79 rfl) fl_RX0_18 e0 ?_
        refine r_iload_n (dc_X0_findKinds 80 rfl) rfl rfl ?_
        refine r_dup2 (dc_X0_findKinds 81 rfl) rfl rfl ?_
        obtain ⟨x24, e0, h⟩ := Option.bind_eq_some_iff.mp h
        refine r_iald (dc_X0_findKinds 82 rfl) e0 ?_
        refine r_aload_n (dc_X0_findKinds 83 rfl) rfl rfl ?_
        obtain ⟨x25, e0, h⟩ := Option.bind_eq_some_iff.mp h
        refine r_getI (dc_X0_findKinds 84 rfl) fl_RX0_49 e0 ?_
        refine r_iconst (dc_X0_findKinds 85 rfl) kiconst_1 ?_
        refine r_iload_n (dc_X0_findKinds 86 rfl) rfl rfl ?_
        refine r_ishl (dc_X0_findKinds 87 rfl) ?_
        refine r_iand (dc_X0_findKinds 88 rfl) ?_
        refine r_ior (dc_X0_findKinds 89 rfl) ?_
        obtain ⟨s26, e0, h⟩ := Option.bind_eq_some_iff.mp h
        refine r_iast (dc_X0_findKinds 90 rfl) e0 ?_
        refine r_iinc (dc_X0_findKinds 91 rfl) rfl (kinc_1 _) (by decide) (lo' := [(2, .int (xL2 + (1 : Int32))), (0, .ref pL0), (1, .int xL1)]) rfl ?_
        refine r_goto (dc_X0_findKinds 92 rfl) (tgt := 115) (by decide) ?_
        refine r_pick [1, 2, 0] (lo' := [(0, .ref pL0), (1, .int xL1), (2, .int (xL2 + (1 : Int32)))]) rfl ?_
        exact ih _ _ h
theorem l_X0_findKinds_L95 {G : Gx} {d : Nat} (hl : G.1.stackTraces = false) (hd : 1 ≤ d) {pL0 : Nat} {r : Sto} {k165 : Sto → Option Sto}
    (hk165 : ∀ (sL : Sto), k165 sL = some r → J G d m_X0_findKinds 165 [] [] sL (.inl none) r)
  : ∀ (f : Nat) (xL1 : Int32) (sL : Sto), F_X0_findKinds_L95 pL0 f xL1 sL k165 = some r → J G d m_X0_findKinds 95 [(0, .ref pL0), (1, .int xL1)] [] sL (.inl none) r := by
  intro f
  induction f with
  | zero => intro xL1 sL h; rw [F_X0_findKinds_L95] at h; cases h
  | succ f ih =>
    intro xL1 sL h
    rw [F_X0_findKinds_L95] at h
    refine r_iload_n (dc_X0_findKinds 53 rfl) rfl rfl ?_
    refine r_aload_n (dc_X0_findKinds 54 rfl) rfl rfl ?_
    obtain ⟨p17, e0, h⟩ := Option.bind_eq_some_iff.mp h
    refine r_getR (dc_X0_findKinds 55 rfl) fl_RX0_21 e0 ?_
    obtain ⟨x18, e0, h⟩ := Option.bind_eq_some_iff.mp h
    refine r_getI (dc_X0_findKinds 56 rfl) fl_RX0_29 e0 ?_
    refine r_icmp_ge (dc_X0_findKinds 57 rfl) (tgt := 165) (by decide) (fun c0 => ?_) (fun c0 => ?_)
    · rw [if_pos c0] at h
      refine r_pick [] (lo' := []) rfl ?_
      exact hk165 _ h
    · rw [if_neg c0] at h
      refine r_aload_n (dc_X0_findKinds 58 rfl) rfl rfl ?_
      obtain ⟨p19, e0, h⟩ := Option.bind_eq_some_iff.mp h
      refine r_getR (dc_X0_findKinds 59 rfl) fl_RX0_18 e0 ?_
      refine r_iload_n (dc_X0_findKinds 60 rfl) rfl rfl ?_
      refine r_iconst (dc_X0_findKinds 61 rfl) kiconst_0 ?_
      obtain ⟨s20, e0, h⟩ := Option.bind_eq_some_iff.mp h
      refine r_iast (dc_X0_findKinds 62 rfl) e0 ?_
      refine r_iconst (dc_X0_findKinds 63 rfl) kiconst_1 ?_
      refine r_istore_n (dc_X0_findKinds 64 rfl) rfl (by decide) (lo' := [(2, .int (1 : Int32)), (0, .ref pL0), (1, .int xL1)]) rfl ?_
      refine r_pick [1, 2, 0] (lo' := [(0, .ref pL0), (1, .int xL1), (2, .int (1 : Int32))]) rfl ?_
      refine l_X0_findKinds_L115 hl hd (hk159 := ?_) fu _ _ h
      · intro s27 h
        refine r_iinc (dc_X0_findKinds 93 rfl) rfl (kinc_1 _) (by decide) (lo' := [(1, .int (xL1 + (1 : Int32))), (0, .ref pL0)]) rfl ?_
        refine r_goto (dc_X0_findKinds 94 rfl) (tgt := 95) (by decide) ?_
        refine r_pick [1, 0] (lo' := [(0, .ref pL0), (1, .int (xL1 + (1 : Int32)))]) rfl ?_
        exact ih _ _ h
theorem t_X0_findKinds {G : Gx} {d : Nat} (hl : G.1.stackTraces = false) (hd : 1 ≤ d) {σ : Sto} {a0 : Nat} {r : Sto} (h : F_X0_findKinds σ a0 = some r) : Mi G d m_X0_findKinds 0 a0 [] σ (.inl none) r := by
  rw [F_X0_findKinds] at h
  obtain ⟨hg, h⟩ := chk_some h
  refine ⟨J.toMt (lo := [(0, .ref a0)]) pn_RX0 rfl hl (Nat.le_of_ble_eq_true rfl) rfl ?_, hg⟩
  refine r_aload_n (dc_X0_findKinds 0 rfl) rfl rfl ?_
  refine r_iconst (dc_X0_findKinds 1 rfl) kiconst_0 ?_
  obtain ⟨s1, e0, h⟩ := Option.bind_eq_some_iff.mp h
  refine r_put (dc_X0_findKinds 2 rfl) pl_RX0_49 rfl e0 ?_
  refine r_iconst (dc_X0_findKinds 3 rfl) kiconst_0 ?_
  refine r_istore_n (dc_X0_findKinds 4 rfl) rfl (by decide) (lo' := [(1, .int (0 : Int32)), (0, .ref a0)]) rfl ?_
  refine r_pick [1, 0] (lo' := [(0, .ref a0), (1, .int (0 : Int32))]) rfl ?_
  refine l_X0_findKinds_L7 hl hd (hk93 := ?_) fu _ _ h
  · intro s16 h
    refine r_iconst (dc_X0_findKinds 51 rfl) kiconst_0 ?_
    refine r_istore_n (dc_X0_findKinds 52 rfl) rfl (by decide) (lo' := [(1, .int (0 : Int32)), (0, .ref a0)]) rfl ?_
    refine r_pick [1, 0] (lo' := [(0, .ref a0), (1, .int (0 : Int32))]) rfl ?_
    refine l_X0_findKinds_L95 hl hd (hk165 := ?_) fu _ _ h
    · intro s28 h
      cases h
      exact r_vreturn (dc_X0_findKinds 95 rfl) rfl
theorem t_X9_cell {G : Gx} {d : Nat} (hl : G.1.stackTraces = false) (hd : 0 ≤ d) {σ : Sto} {xa0 : Int32} {xa1 : Int32} {r : Int32} (h : F_X9_cell xa0 xa1 = some r) : Mt G d m_X9_cell [.int xa0, .int xa1] σ (.inl (some (.int r))) σ := by
  rw [F_X9_cell] at h
  refine J.toMt (lo := [(0, .int xa0), (1, .int xa1)]) pn_RX9 rfl hl (Nat.le_of_ble_eq_true rfl) rfl ?_
  refine r_iload_n (dc_X9_cell 0 rfl) rfl rfl ?_
  refine r_iconst (dc_X9_cell 1 rfl) kiconst_5 ?_
  refine r_imul (dc_X9_cell 2 rfl) ?_
  refine r_iload_n (dc_X9_cell 3 rfl) rfl rfl ?_
  refine r_iadd (dc_X9_cell 4 rfl) ?_
  cases h
  exact r_ireturn (dc_X9_cell 5 rfl) rfl
theorem t_X8_isCut {G : Gx} {d : Nat} (hl : G.1.stackTraces = false) (hd : 1 ≤ d) {σ : Sto} {a0 : Nat} {xa1 : Int32} {xa2 : Int32} {r : Int32} (h : F_X8_isCut σ a0 xa1 xa2 = some r) : Mi G d m_X8_isCut 8 a0 [.int xa1, .int xa2] σ (.inl (some (.int r))) σ := by
  rw [F_X8_isCut] at h
  obtain ⟨hg, h⟩ := chk_some h
  refine ⟨J.toMt (lo := [(0, .ref a0), (1, .int xa1), (2, .int xa2)]) pn_RX8 rfl hl (Nat.le_of_ble_eq_true rfl) rfl ?_, hg⟩
  refine r_aload_n (dc_X8_isCut 0 rfl) rfl rfl ?_
  obtain ⟨p1, e0, h⟩ := Option.bind_eq_some_iff.mp h
  refine r_getR (dc_X8_isCut 1 rfl) fl_RX8_37 e0 ?_
  refine r_iload_n (dc_X8_isCut 2 rfl) rfl rfl ?_
  refine r_iload_n (dc_X8_isCut 3 rfl) rfl rfl ?_
  obtain ⟨x2, e0, h⟩ := Option.bind_eq_some_iff.mp h
  refine r_callSN (dc_X8_isCut 4 rfl) ms_X9_cell mn_RX8_75 (As := [.int xa1, .int xa2]) (t_X9_cell (d := d - 1) hl (by omega) e0) (by omega) rfl (Nat.le_of_ble_eq_true rfl) ?_
  obtain ⟨x3, e0, h⟩ := Option.bind_eq_some_iff.mp h
  refine r_zald (dc_X8_isCut 5 rfl) e0 ?_
  split at h
  · rename_i c0
    cases h
    exact r_zreturn (dc_X8_isCut 6 rfl) rfl c0
  · cases h
theorem l_X8_linkedWith_L4 {G : Gx} {d : Nat} (hl : G.1.stackTraces = false) (hd : 2 ≤ d) {sL : Sto} {pL0 : Nat} {xL1 : Int32} {r : Int32} {k33 : Int32 → Option Int32}
    (hk33 : ∀ (xL2 : Int32), k33 xL2 = some r → J G d m_X8_linkedWith 33 [(2, .int xL2)] [] sL (.inl (some (.int r))) sL)
  : ∀ (f : Nat) (xL2 : Int32) (xL3 : Int32), F_X8_linkedWith_L4 sL pL0 xL1 f xL2 xL3 k33 = some r → J G d m_X8_linkedWith 4 [(0, .ref pL0), (1, .int xL1), (2, .int xL2), (3, .int xL3)] [] sL (.inl (some (.int r))) sL := by
  intro f
  induction f with
  | zero => intro xL2 xL3 h; rw [F_X8_linkedWith_L4] at h; cases h
  | succ f ih =>
    intro xL2 xL3 h
    rw [F_X8_linkedWith_L4] at h
    refine r_iload_n (dc_X8_linkedWith 4 rfl) rfl rfl ?_
    refine r_aload_n (dc_X8_linkedWith 5 rfl) rfl rfl ?_
    obtain ⟨x1, e0, h⟩ := Option.bind_eq_some_iff.mp h
    refine r_getI (dc_X8_linkedWith 6 rfl) fl_RX8_9 e0 ?_
    refine r_icmp_ge (dc_X8_linkedWith 7 rfl) (tgt := 33) (by decide) (fun c0 => ?_) (fun c0 => ?_)
    · rw [if_pos c0] at h
      refine r_pick [2] (lo' := [(2, .int xL2)]) rfl ?_
      exact hk33 _ h
    · rw [if_neg c0] at h
      refine r_aload_n (dc_X8_linkedWith 8 rfl) rfl rfl ?_
      refine r_iload_n (dc_X8_linkedWith 9 rfl) rfl rfl ?_
      refine r_iload_n (dc_X8_linkedWith 10 rfl) rfl rfl ?_
      obtain ⟨x2, e0, h⟩ := Option.bind_eq_some_iff.mp h
      refine r_callV (dc_X8_linkedWith 11 rfl) mv_X8_isCut ml_RX8_87 (As := [.int xL1, .int xL3]) (t_X8_isCut (d := d - 1) hl (by omega) e0) (by omega) rfl (Nat.le_of_ble_eq_true rfl) ?_
      refine r_if_ne (dc_X8_linkedWith 12 rfl) (tgt := 27) (by decide) (fun c0 => ?_) (fun c0 => ?_)
      · rw [if_neg c0] at h
        refine r_iinc (dc_X8_linkedWith 19 rfl) rfl (kinc_1 _) (by decide) (lo' := [(3, .int (xL3 + (1 : Int32))), (0, .ref pL0), (1, .int xL1), (2, .int xL2)]) rfl ?_
        refine r_goto (dc_X8_linkedWith 20 rfl) (tgt := 4) (by decide) ?_
        refine r_pick [1, 2, 3, 0] (lo' := [(0, .ref pL0), (1, .int xL1), (2, .int xL2), (3, .int (xL3 + (1 : Int32)))]) rfl ?_
        exact ih _ _ h
      · rw [if_pos c0] at h
        refine r_iload_n (dc_X8_linkedWith 13 rfl) rfl rfl ?_
        refine r_iconst (dc_X8_linkedWith 14 rfl) kiconst_1 ?_
        refine r_iload_n (dc_X8_linkedWith 15 rfl) rfl rfl ?_
        refine r_ishl (dc_X8_linkedWith 16 rfl) ?_
        refine r_ior (dc_X8_linkedWith 17 rfl) ?_
        refine r_istore_n (dc_X8_linkedWith 18 rfl) rfl (by decide) (lo' := [(2, .int (xL2 ||| ((1 : Int32) <<< (xL3 &&& 31)))), (0, .ref pL0), (1, .int xL1), (3, .int xL3)]) rfl ?_
        refine r_iinc (dc_X8_linkedWith 19 rfl) rfl (kinc_1 _) (by decide) (lo' := [(3, .int (xL3 + (1 : Int32))), (2, .int (xL2 ||| ((1 : Int32) <<< (xL3 &&& 31)))), (0, .ref pL0), (1, .int xL1)]) rfl ?_
        refine r_goto (dc_X8_linkedWith 20 rfl) (tgt := 4) (by decide) ?_
        refine r_pick [2, 3, 1, 0] (lo' := [(0, .ref pL0), (1, .int xL1), (2, .int (xL2 ||| ((1 : Int32) <<< (xL3 &&& 31)))), (3, .int (xL3 + (1 : Int32)))]) rfl ?_
        exact ih _ _ h
theorem t_X8_linkedWith {G : Gx} {d : Nat} (hl : G.1.stackTraces = false) (hd : 2 ≤ d) {σ : Sto} {a0 : Nat} {xa1 : Int32} {r : Int32} (h : F_X8_linkedWith σ a0 xa1 = some r) : Mi G d m_X8_linkedWith 8 a0 [.int xa1] σ (.inl (some (.int r))) σ := by
  rw [F_X8_linkedWith] at h
  obtain ⟨hg, h⟩ := chk_some h
  refine ⟨J.toMt (lo := [(0, .ref a0), (1, .int xa1)]) pn_RX8 rfl hl (Nat.le_of_ble_eq_true rfl) rfl ?_, hg⟩
  refine r_iconst (dc_X8_linkedWith 0 rfl) kiconst_0 ?_
  refine r_istore_n (dc_X8_linkedWith 1 rfl) rfl (by decide) (lo' := [(2, .int (0 : Int32)), (0, .ref a0), (1, .int xa1)]) rfl ?_
  refine r_iconst (dc_X8_linkedWith 2 rfl) kiconst_0 ?_
  refine r_istore_n (dc_X8_linkedWith 3 rfl) rfl (by decide) (lo' := [(3, .int (0 : Int32)), (2, .int (0 : Int32)), (0, .ref a0), (1, .int xa1)]) rfl ?_
  refine r_pick [2, 3, 1, 0] (lo' := [(0, .ref a0), (1, .int xa1), (2, .int (0 : Int32)), (3, .int (0 : Int32))]) rfl ?_
  refine l_X8_linkedWith_L4 hl hd (hk33 := ?_) fu _ _ h
  · intro x3 h
    refine r_iload_n (dc_X8_linkedWith 21 rfl) rfl rfl ?_
    cases h
    exact r_ireturn (dc_X8_linkedWith 22 rfl) rfl
theorem l_X8_partOf_L17 {G : Gx} {d : Nat} (hl : G.1.stackTraces = false) (hd : 3 ≤ d) {sL : Sto} {pL0 : Nat} {xL3 : Int32} {r : Int32} {k50 : Int32 → Option Int32}
    (hk50 : ∀ (xL2 : Int32), k50 xL2 = some r → J G d m_X8_partOf 50 [(0, .ref pL0), (2, .int xL2), (3, .int xL3)] [] sL (.inl (some (.int r))) sL)
  : ∀ (f : Nat) (xL2 : Int32) (xL4 : Int32), F_X8_partOf_L17 sL pL0 f xL2 xL4 k50 = some r → J G d m_X8_partOf 17 [(0, .ref pL0), (2, .int xL2), (3, .int xL3), (4, .int xL4)] [] sL (.inl (some (.int r))) sL := by
  intro f
  induction f with
  | zero => intro xL2 xL4 h; rw [F_X8_partOf_L17] at h; cases h
  | succ f ih =>
    intro xL2 xL4 h
    rw [F_X8_partOf_L17] at h
    refine r_iload (dc_X8_partOf 12 rfl) rfl ?_
    refine r_aload_n (dc_X8_partOf 13 rfl) rfl rfl ?_
    obtain ⟨x2, e0, h⟩ := Option.bind_eq_some_iff.mp h
    refine r_getI (dc_X8_partOf 14 rfl) fl_RX8_9 e0 ?_
    refine r_icmp_ge (dc_X8_partOf 15 rfl) (tgt := 50) (by decide) (fun c0 => ?_) (fun c0 => ?_)
    · rw [if_pos c0] at h
      refine r_pick [0, 1, 2] (lo' := [(0, .ref pL0), (2, .int xL2), (3, .int xL3)]) rfl ?_
      exact hk50 _ h
    · rw [if_neg c0] at h
      refine r_iload_n (dc_X8_partOf 16 rfl) rfl rfl ?_
      refine r_iload (dc_X8_partOf 17 rfl) rfl ?_
      refine r_ishr (dc_X8_partOf 18 rfl) ?_
      refine r_iconst (dc_X8_partOf 19 rfl) kiconst_1 ?_
      refine r_iand (dc_X8_partOf 20 rfl) ?_
      refine r_if_eq (dc_X8_partOf 21 rfl) (tgt := 44) (by decide) (fun c0 => ?_) (fun c0 => ?_)
      · rw [if_pos c0] at h
        refine r_iinc (dc_X8_partOf 28 rfl) rfl (kinc_1 _) (by decide) (lo' := [(4, .int (xL4 + (1 : Int32))), (0, .ref pL0), (2, .int xL2), (3, .int xL3)]) rfl ?_
        refine r_goto (dc_X8_partOf 29 rfl) (tgt := 17) (by decide) ?_
        refine r_pick [1, 2, 3, 0] (lo' := [(0, .ref pL0), (2, .int xL2), (3, .int xL3), (4, .int (xL4 + (1 : Int32)))]) rfl ?_
        exact ih _ _ h
      · rw [if_neg c0] at h
        refine r_iload_n (dc_X8_partOf 22 rfl) rfl rfl ?_
        refine r_aload_n (dc_X8_partOf 23 rfl) rfl rfl ?_
        refine r_iload (dc_X8_partOf 24 rfl) rfl ?_
        obtain ⟨x3, e0, h⟩ := Option.bind_eq_some_iff.mp h
        refine r_callV (dc_X8_partOf 25 rfl) mv_X8_linkedWith ml_RX8_192 (As := [.int xL4]) (t_X8_linkedWith (d := d - 1) hl (by omega) e0) (by omega) rfl (Nat.le_of_ble_eq_true rfl) ?_
        refine r_ior (dc_X8_partOf 26 rfl) ?_
        refine r_istore_n (dc_X8_partOf 27 rfl) rfl (by decide) (lo' := [(2, .int (xL2 ||| x3)), (0, .ref pL0), (3, .int xL3), (4, .int xL4)]) rfl ?_
        refine r_iinc (dc_X8_partOf 28 rfl) rfl (kinc_1 _) (by decide) (lo' := [(4, .int (xL4 + (1 : Int32))), (2, .int (xL2 ||| x3)), (0, .ref pL0), (3, .int xL3)]) rfl ?_
        refine r_goto (dc_X8_partOf 29 rfl) (tgt := 17) (by decide) ?_
        refine r_pick [2, 1, 3, 0] (lo' := [(0, .ref pL0), (2, .int (xL2 ||| x3)), (3, .int xL3), (4, .int (xL4 + (1 : Int32)))]) rfl ?_
        exact ih _ _ h
theorem l_X8_partOf_L6 {G : Gx} {d : Nat} (hl : G.1.stackTraces = false) (hd : 3 ≤ d) {sL : Sto} {pL0 : Nat} {r : Int32} {k56 : Int32 → Option Int32}
    (hk56 : ∀ (xL2 : Int32), k56 xL2 = some r → J G d m_X8_partOf 56 [(2, .int xL2)] [] sL (.inl (some (.int r))) sL)
  : ∀ (f : Nat) (xL2 : Int32) (xL3 : Int32), F_X8_partOf_L6 sL pL0 f xL2 xL3 k56 = some r → J G d m_X8_partOf 6 [(0, .ref pL0), (2, .int xL2), (3, .int xL3)] [] sL (.inl (some (.int r))) sL := by
  intro f
  induction f with
  | zero => intro xL2 xL3 h; rw [F_X8_partOf_L6] at h; cases h
  | succ f ih =>
    intro xL2 xL3 h
    rw [F_X8_partOf_L6] at h
    refine r_iload_n (dc_X8_partOf 6 rfl) rfl rfl ?_
    refine r_aload_n (dc_X8_partOf 7 rfl) rfl rfl ?_
    obtain ⟨x1, e0, h⟩ := Option.bind_eq_some_iff.mp h
    refine r_getI (dc_X8_partOf 8 rfl) fl_RX8_9 e0 ?_
    refine r_icmp_ge (dc_X8_partOf 9 rfl) (tgt := 56) (by decide) (fun c0 => ?_) (fun c0 => ?_)
    · rw [if_pos c0] at h
      refine r_pick [1] (lo' := [(2, .int xL2)]) rfl ?_
      exact hk56 _ h
    · rw [if_neg c0] at h
      refine r_iconst (dc_X8_partOf 10 rfl) kiconst_0 ?_
      refine r_istore (dc_X8_partOf 11 rfl) (by decide) (lo' := [(4, .int (0 : Int32)), (0, .ref pL0), (2, .int xL2), (3, .int xL3)]) rfl ?_
      refine r_pick [1, 2, 3, 0] (lo' := [(0, .ref pL0), (2, .int xL2), (3, .int xL3), (4, .int (0 : Int32))]) rfl ?_
      refine l_X8_partOf_L17 hl hd (hk50 := ?_) fu _ _ h
      · intro x4 h
        refine r_iinc (dc_X8_partOf 30 rfl) rfl (kinc_1 _) (by decide) (lo' := [(3, .int (xL3 + (1 : Int32))), (0, .ref pL0), (2, .int x4)]) rfl ?_
        refine r_goto (dc_X8_partOf 31 rfl) (tgt := 6) (by decide) ?_
        refine r_pick [1, 2, 0] (lo' := [(0, .ref pL0), (2, .int x4), (3, .int (xL3 + (1 : Int32)))]) rfl ?_
        exact ih _ _ h
theorem t_X8_partOf {G : Gx} {d : Nat} (hl : G.1.stackTraces = false) (hd : 3 ≤ d) {σ : Sto} {a0 : Nat} {xa1 : Int32} {r : Int32} (h : F_X8_partOf σ a0 xa1 = some r) : Mi G d m_X8_partOf 8 a0 [.int xa1] σ (.inl (some (.int r))) σ := by
  rw [F_X8_partOf] at h
  obtain ⟨hg, h⟩ := chk_some h
  refine ⟨J.toMt (lo := [(0, .ref a0), (1, .int xa1)]) pn_RX8 rfl hl (Nat.le_of_ble_eq_true rfl) rfl ?_, hg⟩
  refine r_iconst (dc_X8_partOf 0 rfl) kiconst_1 ?_
  refine r_iload_n (dc_X8_partOf 1 rfl) rfl rfl ?_
  refine r_ishl (dc_X8_partOf 2 rfl) ?_
  refine r_istore_n (dc_X8_partOf 3 rfl) rfl (by decide) (lo' := [(2, .int ((1 : Int32) <<< (xa1 &&& 31))), (0, .ref a0), (1, .int xa1)]) rfl ?_
  refine r_iconst (dc_X8_partOf 4 rfl) kiconst_0 ?_
  refine r_istore_n (dc_X8_partOf 5 rfl) rfl (by decide) (lo' := [(3, .int (0 : Int32)), (2, .int ((1 : Int32) <<< (xa1 &&& 31))), (0, .ref a0), (1, .int xa1)]) rfl ?_
  refine r_pick [2, 1, 0] (lo' := [(0, .ref a0), (2, .int ((1 : Int32) <<< (xa1 &&& 31))), (3, .int (0 : Int32))]) rfl ?_
  refine l_X8_partOf_L6 hl hd (hk56 := ?_) fu _ _ h
  · intro x5 h
    refine r_iload_n (dc_X8_partOf 32 rfl) rfl rfl ?_
    cases h
    exact r_ireturn (dc_X8_partOf 33 rfl) rfl
theorem l_X0_joined_L5 {G : Gx} {d : Nat} (hl : G.1.stackTraces = false) (hd : 0 ≤ d) {sL : Sto} {pL0 : Nat} {xL1 : Int32} {xL2 : Int32} {r : Int32} {k46 : Int32 → Option Int32}
    (hk46 : ∀ (xL3 : Int32), k46 xL3 = some r → J G d m_X0_joined 46 [(3, .int xL3)] [] sL (.inl (some (.int r))) sL)
  : ∀ (f : Nat) (xL3 : Int32) (xL4 : Int32), F_X0_joined_L5 sL pL0 xL1 xL2 f xL3 xL4 k46 = some r → J G d m_X0_joined 5 [(0, .ref pL0), (1, .int xL1), (2, .int xL2), (3, .int xL3), (4, .int xL4)] [] sL (.inl (some (.int r))) sL := by
  intro f
  induction f with
  | zero => intro xL3 xL4 h; rw [F_X0_joined_L5] at h; cases h
  | succ f ih =>
    intro xL3 xL4 h
    rw [F_X0_joined_L5] at h
    refine r_iload (dc_X0_joined 4 rfl) rfl ?_
    refine r_aload_n (dc_X0_joined 5 rfl) rfl rfl ?_
    obtain ⟨p1, e0, h⟩ := Option.bind_eq_some_iff.mp h
    refine r_getR (dc_X0_joined 6 rfl) fl_RX0_21 e0 ?_
    obtain ⟨x2, e0, h⟩ := Option.bind_eq_some_iff.mp h
    refine r_getI (dc_X0_joined 7 rfl) fl_RX0_29 e0 ?_
    refine r_icmp_ge (dc_X0_joined 8 rfl) (tgt := 46) (by decide) (fun c0 => ?_) (fun c0 => ?_)
    · rw [if_pos c0] at h
      refine r_pick [3] (lo' := [(3, .int xL3)]) rfl ?_
      exact hk46 _ h
    · rw [if_neg c0] at h
      refine r_iload_n (dc_X0_joined 9 rfl) rfl rfl ?_
      refine r_iload (dc_X0_joined 10 rfl) rfl ?_
      refine r_ishr (dc_X0_joined 11 rfl) ?_
      refine r_iconst (dc_X0_joined 12 rfl) kiconst_1 ?_
      refine r_iand (dc_X0_joined 13 rfl) ?_
      refine r_if_eq (dc_X0_joined 14 rfl) (tgt := 40) (by decide) (fun c0 => ?_) (fun c0 => ?_)
      · rw [if_pos c0] at h
        refine r_iinc (dc_X0_joined 26 rfl) rfl (kinc_1 _) (by decide) (lo' := [(4, .int (xL4 + (1 : Int32))), (0, .ref pL0), (1, .int xL1), (2, .int xL2), (3, .int xL3)]) rfl ?_
        refine r_goto (dc_X0_joined 27 rfl) (tgt := 5) (by decide) ?_
        refine r_pick [1, 2, 3, 4, 0] (lo' := [(0, .ref pL0), (1, .int xL1), (2, .int xL2), (3, .int xL3), (4, .int (xL4 + (1 : Int32)))]) rfl ?_
        exact ih _ _ h
      · rw [if_neg c0] at h
        refine r_iload_n (dc_X0_joined 15 rfl) rfl rfl ?_
        refine r_aload_n (dc_X0_joined 16 rfl) rfl rfl ?_
        obtain ⟨p3, e0, h⟩ := Option.bind_eq_some_iff.mp h
        refine r_getR (dc_X0_joined 17 rfl) fl_RX0_18 e0 ?_
        refine r_iload_n (dc_X0_joined 18 rfl) rfl rfl ?_
        refine r_iconst (dc_X0_joined 19 rfl) kiconst_4 ?_
        refine r_imul (dc_X0_joined 20 rfl) ?_
        refine r_iload (dc_X0_joined 21 rfl) rfl ?_
        refine r_iadd (dc_X0_joined 22 rfl) ?_
        obtain ⟨x4, e0, h⟩ := Option.bind_eq_some_iff.mp h
        refine r_iald (dc_X0_joined 23 rfl) e0 ?_
        refine r_ior (dc_X0_joined 24 rfl) ?_
        refine r_istore_n (dc_X0_joined 25 rfl) rfl (by decide) (lo' := [(3, .int (xL3 ||| x4)), (0, .ref pL0), (1, .int xL1), (2, .int xL2), (4, .int xL4)]) rfl ?_
        refine r_iinc (dc_X0_joined 26 rfl) rfl (kinc_1 _) (by decide) (lo' := [(4, .int (xL4 + (1 : Int32))), (3, .int (xL3 ||| x4)), (0, .ref pL0), (1, .int xL1), (2, .int xL2)]) rfl ?_
        refine r_goto (dc_X0_joined 27 rfl) (tgt := 5) (by decide) ?_
        refine r_pick [2, 3, 4, 1, 0] (lo' := [(0, .ref pL0), (1, .int xL1), (2, .int xL2), (3, .int (xL3 ||| x4)), (4, .int (xL4 + (1 : Int32)))]) rfl ?_
        exact ih _ _ h
theorem t_X0_joined {G : Gx} {d : Nat} (hl : G.1.stackTraces = false) (hd : 0 ≤ d) {σ : Sto} {a0 : Nat} {xa1 : Int32} {xa2 : Int32} {r : Int32} (h : F_X0_joined σ a0 xa1 xa2 = some r) : Mi G d m_X0_joined 0 a0 [.int xa1, .int xa2] σ (.inl (some (.int r))) σ := by
  rw [F_X0_joined] at h
  obtain ⟨hg, h⟩ := chk_some h
  refine ⟨J.toMt (lo := [(0, .ref a0), (1, .int xa1), (2, .int xa2)]) pn_RX0 rfl hl (Nat.le_of_ble_eq_true rfl) rfl ?_, hg⟩
  refine r_iconst (dc_X0_joined 0 rfl) kiconst_0 ?_
  refine r_istore_n (dc_X0_joined 1 rfl) rfl (by decide) (lo' := [(3, .int (0 : Int32)), (0, .ref a0), (1, .int xa1), (2, .int xa2)]) rfl ?_
  refine r_iconst (dc_X0_joined 2 rfl) kiconst_0 ?_
  refine r_istore (dc_X0_joined 3 rfl) (by decide) (lo' := [(4, .int (0 : Int32)), (3, .int (0 : Int32)), (0, .ref a0), (1, .int xa1), (2, .int xa2)]) rfl ?_
  refine r_pick [2, 3, 4, 1, 0] (lo' := [(0, .ref a0), (1, .int xa1), (2, .int xa2), (3, .int (0 : Int32)), (4, .int (0 : Int32))]) rfl ?_
  refine l_X0_joined_L5 hl hd (hk46 := ?_) fu _ _ h
  · intro x5 h
    refine r_iload_n (dc_X0_joined 28 rfl) rfl rfl ?_
    cases h
    exact r_ireturn (dc_X0_joined 29 rfl) rfl
theorem l_X0_eachPartHasAll_L2 {G : Gx} {d : Nat} (hl : G.1.stackTraces = false) (hd : 4 ≤ d) {sL : Sto} {pL0 : Nat} {r : Int32} {k41 : Option Int32}
    (hk41 : k41  = some r → J G d m_X0_eachPartHasAll 41 [] [] sL (.inl (some (.int r))) sL)
  : ∀ (f : Nat) (xL1 : Int32), F_X0_eachPartHasAll_L2 sL pL0 f xL1 k41 = some r → J G d m_X0_eachPartHasAll 2 [(0, .ref pL0), (1, .int xL1)] [] sL (.inl (some (.int r))) sL := by
  intro f
  induction f with
  | zero => intro xL1 h; rw [F_X0_eachPartHasAll_L2] at h; cases h
  | succ f ih =>
    intro xL1 h
    rw [F_X0_eachPartHasAll_L2] at h
    refine r_iload_n (dc_X0_eachPartHasAll 2 rfl) rfl rfl ?_
    refine r_aload_n (dc_X0_eachPartHasAll 3 rfl) rfl rfl ?_
    obtain ⟨p1, e0, h⟩ := Option.bind_eq_some_iff.mp h
    refine r_getR (dc_X0_eachPartHasAll 4 rfl) fl_RX0_21 e0 ?_
    obtain ⟨x2, e0, h⟩ := Option.bind_eq_some_iff.mp h
    refine r_getI (dc_X0_eachPartHasAll 5 rfl) fl_RX0_29 e0 ?_
    refine r_icmp_ge (dc_X0_eachPartHasAll 6 rfl) (tgt := 41) (by decide) (fun c0 => ?_) (fun c0 => ?_)
    · rw [if_pos c0] at h
      refine r_pick [] (lo' := []) rfl ?_
      exact hk41  h
    · rw [if_neg c0] at h
      refine r_aload_n (dc_X0_eachPartHasAll 7 rfl) rfl rfl ?_
      refine r_iconst (dc_X0_eachPartHasAll 8 rfl) kiconst_0 ?_
      refine r_aload_n (dc_X0_eachPartHasAll 9 rfl) rfl rfl ?_
      obtain ⟨p3, e0, h⟩ := Option.bind_eq_some_iff.mp h
      refine r_getR (dc_X0_eachPartHasAll 10 rfl) fl_RX0_21 e0 ?_
      refine r_iload_n (dc_X0_eachPartHasAll 11 rfl) rfl rfl ?_
      obtain ⟨x4, e0, h⟩ := Option.bind_eq_some_iff.mp h
      refine r_callV (dc_X0_eachPartHasAll 12 rfl) mv_X8_partOf ml_RX0_77 (As := [.int xL1]) (t_X8_partOf (d := d - 1) hl (by omega) e0) (by omega) rfl (Nat.le_of_ble_eq_true rfl) ?_
      obtain ⟨x5, e0, h⟩ := Option.bind_eq_some_iff.mp h
      refine r_callV (dc_X0_eachPartHasAll 13 rfl) mv_X0_joined ml_RX0_80 (As := [.int (0 : Int32), .int x4]) (t_X0_joined (d := d - 1) hl (by omega) e0) (by omega) rfl (Nat.le_of_ble_eq_true rfl) ?_
      refine r_aload_n (dc_X0_eachPartHasAll 14 rfl) rfl rfl ?_
      obtain ⟨x6, e0, h⟩ := Option.bind_eq_some_iff.mp h
      refine r_getI (dc_X0_eachPartHasAll 15 rfl) fl_RX0_49 e0 ?_
      refine r_icmp_eq (dc_X0_eachPartHasAll 16 rfl) (tgt := 35) (by decide) (fun c0 => ?_) (fun c0 => ?_)
      · rw [if_pos c0] at h
        refine r_iinc (dc_X0_eachPartHasAll 19 rfl) rfl (kinc_1 _) (by decide) (lo' := [(1, .int (xL1 + (1 : Int32))), (0, .ref pL0)]) rfl ?_
        refine r_goto (dc_X0_eachPartHasAll 20 rfl) (tgt := 2) (by decide) ?_
        refine r_pick [1, 0] (lo' := [(0, .ref pL0), (1, .int (xL1 + (1 : Int32)))]) rfl ?_
        exact ih _ h
      · rw [if_neg c0] at h
        refine r_iconst (dc_X0_eachPartHasAll 17 rfl) kiconst_0 ?_
        cases h
        exact r_zreturn (dc_X0_eachPartHasAll 18 rfl) rfl (Or.inl rfl)
theorem t_X0_eachPartHasAll {G : Gx} {d : Nat} (hl : G.1.stackTraces = false) (hd : 4 ≤ d) {σ : Sto} {a0 : Nat} {r : Int32} (h : F_X0_eachPartHasAll σ a0 = some r) : Mi G d m_X0_eachPartHasAll 0 a0 [] σ (.inl (some (.int r))) σ := by
  rw [F_X0_eachPartHasAll] at h
  obtain ⟨hg, h⟩ := chk_some h
  refine ⟨J.toMt (lo := [(0, .ref a0)]) pn_RX0 rfl hl (Nat.le_of_ble_eq_true rfl) rfl ?_, hg⟩
  refine r_iconst (dc_X0_eachPartHasAll 0 rfl) kiconst_0 ?_
  refine r_istore_n (dc_X0_eachPartHasAll 1 rfl) rfl (by decide) (lo' := [(1, .int (0 : Int32)), (0, .ref a0)]) rfl ?_
  refine r_pick [1, 0] (lo' := [(0, .ref a0), (1, .int (0 : Int32))]) rfl ?_
  refine l_X0_eachPartHasAll_L2 hl hd (hk41 := ?_) fu _ h
  · intro h
    refine r_iconst (dc_X0_eachPartHasAll 21 rfl) kiconst_1 ?_
    cases h
    exact r_zreturn (dc_X0_eachPartHasAll 22 rfl) rfl (Or.inr rfl)
theorem l_X0_leastFrom_L4 {G : Gx} {d : Nat} (hl : G.1.stackTraces = false) (hd : 1 ≤ d) {sL : Sto} {pL0 : Nat} {xL1 : Int32} {r : Int32} {k41 : Int32 → Option Int32}
    (hk41 : ∀ (xL2 : Int32), k41 xL2 = some r → J G d m_X0_leastFrom 41 [(0, .ref pL0), (1, .int xL1), (2, .int xL2)] [] sL (.inl (some (.int r))) sL)
  : ∀ (f : Nat) (xL2 : Int32) (xL3 : Int32), F_X0_leastFrom_L4 sL pL0 xL1 f xL2 xL3 k41 = some r → J G d m_X0_leastFrom 4 [(0, .ref pL0), (1, .int xL1), (2, .int xL2), (3, .int xL3)] [] sL (.inl (some (.int r))) sL := by
  intro f
  induction f with
  | zero => intro xL2 xL3 h; rw [F_X0_leastFrom_L4] at h; cases h
  | succ f ih =>
    intro xL2 xL3 h
    rw [F_X0_leastFrom_L4] at h
    refine r_iload_n (dc_X0_leastFrom 4 rfl) rfl rfl ?_
    refine r_aload_n (dc_X0_leastFrom 5 rfl) rfl rfl ?_
    obtain ⟨p1, e0, h⟩ := Option.bind_eq_some_iff.mp h
    refine r_getR (dc_X0_leastFrom 6 rfl) fl_RX0_21 e0 ?_
    obtain ⟨x2, e0, h⟩ := Option.bind_eq_some_iff.mp h
    refine r_getI (dc_X0_leastFrom 7 rfl) fl_RX0_29 e0 ?_
    refine r_icmp_ge (dc_X0_leastFrom 8 rfl) (tgt := 41) (by decide) (fun c0 => ?_) (fun c0 => ?_)
    · rw [if_pos c0] at h
      refine r_pick [0, 1, 2] (lo' := [(0, .ref pL0), (1, .int xL1), (2, .int xL2)]) rfl ?_
      exact hk41 _ h
    · rw [if_neg c0] at h
      refine r_aload_n (dc_X0_leastFrom 9 rfl) rfl rfl ?_
      obtain ⟨p3, e0, h⟩ := Option.bind_eq_some_iff.mp h
      refine r_getR (dc_X0_leastFrom 10 rfl) fl_RX0_18 e0 ?_
      refine r_iload_n (dc_X0_leastFrom 11 rfl) rfl rfl ?_
      refine r_iconst (dc_X0_leastFrom 12 rfl) kiconst_4 ?_
      refine r_imul (dc_X0_leastFrom 13 rfl) ?_
      refine r_iload_n (dc_X0_leastFrom 14 rfl) rfl rfl ?_
      refine r_iadd (dc_X0_leastFrom 15 rfl) ?_
      obtain ⟨x4, e0, h⟩ := Option.bind_eq_some_iff.mp h
      refine r_iald (dc_X0_leastFrom 16 rfl) e0 ?_
      refine r_aload_n (dc_X0_leastFrom 17 rfl) rfl rfl ?_
      obtain ⟨x5, e0, h⟩ := Option.bind_eq_some_iff.mp h
      refine r_getI (dc_X0_leastFrom 18 rfl) fl_RX0_49 e0 ?_
      refine r_icmp_eq (dc_X0_leastFrom 19 rfl) (tgt := 35) (by decide) (fun c0 => ?_) (fun c0 => ?_)
      · rw [if_pos c0] at h
        refine r_iinc (dc_X0_leastFrom 21 rfl) rfl (kinc_1 _) (by decide) (lo' := [(3, .int (xL3 + (1 : Int32))), (0, .ref pL0), (1, .int xL1), (2, .int xL2)]) rfl ?_
        refine r_goto (dc_X0_leastFrom 22 rfl) (tgt := 4) (by decide) ?_
        refine r_pick [1, 2, 3, 0] (lo' := [(0, .ref pL0), (1, .int xL1), (2, .int xL2), (3, .int (xL3 + (1 : Int32)))]) rfl ?_
        exact ih _ _ h
      · rw [if_neg c0] at h
        refine r_iinc (dc_X0_leastFrom 20 rfl) rfl (kinc_1 _) (by decide) (lo' := [(2, .int (xL2 + (1 : Int32))), (0, .ref pL0), (1, .int xL1), (3, .int xL3)]) rfl ?_
        refine r_iinc (dc_X0_leastFrom 21 rfl) rfl (kinc_1 _) (by decide) (lo' := [(3, .int (xL3 + (1 : Int32))), (2, .int (xL2 + (1 : Int32))), (0, .ref pL0), (1, .int xL1)]) rfl ?_
        refine r_goto (dc_X0_leastFrom 22 rfl) (tgt := 4) (by decide) ?_
        refine r_pick [2, 3, 1, 0] (lo' := [(0, .ref pL0), (1, .int xL1), (2, .int (xL2 + (1 : Int32))), (3, .int (xL3 + (1 : Int32)))]) rfl ?_
        exact ih _ _ h
theorem l_X0_leastFrom_L65 {G : Gx} {d : Nat} (hl : G.1.stackTraces = false) (hd : 1 ≤ d) {sL : Sto} {pL0 : Nat} {xL1 : Int32} {xL2 : Int32} {r : Int32} {k109 : Int32 → Option Int32}
    (hk109 : ∀ (xL3 : Int32), k109 xL3 = some r → J G d m_X0_leastFrom 109 [(2, .int xL2), (3, .int xL3)] [] sL (.inl (some (.int r))) sL)
  : ∀ (f : Nat) (xL3 : Int32) (xL4 : Int32), F_X0_leastFrom_L65 sL pL0 xL1 f xL3 xL4 k109 = some r → J G d m_X0_leastFrom 65 [(0, .ref pL0), (1, .int xL1), (2, .int xL2), (3, .int xL3), (4, .int xL4)] [] sL (.inl (some (.int r))) sL := by
  intro f
  induction f with
  | zero => intro xL3 xL4 h; rw [F_X0_leastFrom_L65] at h; cases h
  | succ f ih =>
    intro xL3 xL4 h
    rw [F_X0_leastFrom_L65] at h
    refine r_iload (dc_X0_leastFrom 36 rfl) rfl ?_
    refine r_iconst (dc_X0_leastFrom 37 rfl) kiconst_1 ?_
    refine r_aload_n (dc_X0_leastFrom 38 rfl) rfl rfl ?_
    obtain ⟨p11, e0, h⟩ := Option.bind_eq_some_iff.mp h
    refine r_getR (dc_X0_leastFrom 39 rfl) fl_RX0_21 e0 ?_
    obtain ⟨x12, e0, h⟩ := Option.bind_eq_some_iff.mp h
    refine r_getI (dc_X0_leastFrom 40 rfl) fl_RX0_29 e0 ?_
    refine r_ishl (dc_X0_leastFrom 41 rfl) ?_
    refine r_icmp_ge (dc_X0_leastFrom 42 rfl) (tgt := 109) (by decide) (fun c0 => ?_) (fun c0 => ?_)
    · rw [if_pos c0] at h
      refine r_pick [2, 3] (lo' := [(2, .int xL2), (3, .int xL3)]) rfl ?_
      exact hk109 _ h
    · rw [if_neg c0] at h
      refine r_aload_n (dc_X0_leastFrom 43 rfl) rfl rfl ?_
      refine r_iload_n (dc_X0_leastFrom 44 rfl) rfl rfl ?_
      refine r_iload (dc_X0_leastFrom 45 rfl) rfl ?_
      obtain ⟨x13, e0, h⟩ := Option.bind_eq_some_iff.mp h
      refine r_callV (dc_X0_leastFrom 46 rfl) mv_X0_joined ml_RX0_80 (As := [.int xL1, .int xL4]) (t_X0_joined (d := d - 1) hl (by omega) e0) (by omega) rfl (Nat.le_of_ble_eq_true rfl) ?_
      refine r_aload_n (dc_X0_leastFrom 47 rfl) rfl rfl ?_
      obtain ⟨x14, e0, h⟩ := Option.bind_eq_some_iff.mp h
      refine r_getI (dc_X0_leastFrom 48 rfl) fl_RX0_49 e0 ?_
      refine r_icmp_ne (dc_X0_leastFrom 49 rfl) (tgt := 103) (by decide) (fun c0 => ?_) (fun c0 => ?_)
      · rw [if_neg c0] at h
        refine r_iinc (dc_X0_leastFrom 55 rfl) rfl (kinc_1 _) (by decide) (lo' := [(4, .int (xL4 + (1 : Int32))), (0, .ref pL0), (1, .int xL1), (2, .int xL2), (3, .int xL3)]) rfl ?_
        refine r_goto (dc_X0_leastFrom 56 rfl) (tgt := 65) (by decide) ?_
        refine r_pick [1, 2, 3, 4, 0] (lo' := [(0, .ref pL0), (1, .int xL1), (2, .int xL2), (3, .int xL3), (4, .int (xL4 + (1 : Int32)))]) rfl ?_
        exact ih _ _ h
      · rw [if_pos c0] at h
        refine r_iload_n (dc_X0_leastFrom 50 rfl) rfl rfl ?_
        refine r_iload (dc_X0_leastFrom 51 rfl) rfl ?_
        obtain ⟨x15, e0, h⟩ := Option.bind_eq_some_iff.mp h
        refine r_callS (dc_X0_leastFrom 52 rfl) ms_J6_bitCount_0f7a4 ml_RX0_84 (As := [.int xL4]) (t_J6_bitCount_0f7a4 (d := d - 1) hl (by omega) e0) (by omega) rfl (Nat.le_of_ble_eq_true rfl) ?_
        refine r_mmin (dc_X0_leastFrom 53 rfl) ml_RX0_89 w_mmin1 w_math2 w_mmin3 (by omega) (Nat.le_of_ble_eq_true rfl) ?_
        refine r_istore_n (dc_X0_leastFrom 54 rfl) rfl (by decide) (lo' := [(3, .int (if x15 < xL3 then x15 else xL3)), (0, .ref pL0), (1, .int xL1), (2, .int xL2), (4, .int xL4)]) rfl ?_
        refine r_iinc (dc_X0_leastFrom 55 rfl) rfl (kinc_1 _) (by decide) (lo' := [(4, .int (xL4 + (1 : Int32))), (3, .int (if x15 < xL3 then x15 else xL3)), (0, .ref pL0), (1, .int xL1), (2, .int xL2)]) rfl ?_
        refine r_goto (dc_X0_leastFrom 56 rfl) (tgt := 65) (by decide) ?_
        refine r_pick [2, 3, 4, 1, 0] (lo' := [(0, .ref pL0), (1, .int xL1), (2, .int xL2), (3, .int (if x15 < xL3 then x15 else xL3)), (4, .int (xL4 + (1 : Int32)))]) rfl ?_
        exact ih _ _ h
theorem t_X0_leastFrom {G : Gx} {d : Nat} (hl : G.1.stackTraces = false) (hd : 1 ≤ d) {σ : Sto} {a0 : Nat} {xa1 : Int32} {r : Int32} (h : F_X0_leastFrom σ a0 xa1 = some r) : Mi G d m_X0_leastFrom 0 a0 [.int xa1] σ (.inl (some (.int r))) σ := by
  rw [F_X0_leastFrom] at h
  obtain ⟨hg, h⟩ := chk_some h
  refine ⟨J.toMt (lo := [(0, .ref a0), (1, .int xa1)]) pn_RX0 rfl hl (Nat.le_of_ble_eq_true rfl) rfl ?_, hg⟩
  refine r_iconst (dc_X0_leastFrom 0 rfl) kiconst_0 ?_
  refine r_istore_n (dc_X0_leastFrom 1 rfl) rfl (by decide) (lo' := [(2, .int (0 : Int32)), (0, .ref a0), (1, .int xa1)]) rfl ?_
  refine r_iconst (dc_X0_leastFrom 2 rfl) kiconst_0 ?_
  refine r_istore_n (dc_X0_leastFrom 3 rfl) rfl (by decide) (lo' := [(3, .int (0 : Int32)), (2, .int (0 : Int32)), (0, .ref a0), (1, .int xa1)]) rfl ?_
  refine r_pick [2, 3, 1, 0] (lo' := [(0, .ref a0), (1, .int xa1), (2, .int (0 : Int32)), (3, .int (0 : Int32))]) rfl ?_
  refine l_X0_leastFrom_L4 hl hd (hk41 := ?_) fu _ _ h
  · intro x6 h
    refine r_iload_n (dc_X0_leastFrom 23 rfl) rfl rfl ?_
    refine r_aload_n (dc_X0_leastFrom 24 rfl) rfl rfl ?_
    obtain ⟨p7, e0, h⟩ := Option.bind_eq_some_iff.mp h
    refine r_getR (dc_X0_leastFrom 25 rfl) fl_RX0_21 e0 ?_
    obtain ⟨x8, e0, h⟩ := Option.bind_eq_some_iff.mp h
    refine r_getI (dc_X0_leastFrom 26 rfl) fl_RX0_29 e0 ?_
    refine r_icmp_ge (dc_X0_leastFrom 27 rfl) (tgt := 54) (by decide) (fun c0 => ?_) (fun c0 => ?_)
    · rw [if_pos c0] at h
      refine r_aload_n (dc_X0_leastFrom 30 rfl) rfl rfl ?_
      obtain ⟨p9, e0, h⟩ := Option.bind_eq_some_iff.mp h
      refine r_getR (dc_X0_leastFrom 31 rfl) fl_RX0_21 e0 ?_
      obtain ⟨x10, e0, h⟩ := Option.bind_eq_some_iff.mp h
      refine r_getI (dc_X0_leastFrom 32 rfl) fl_RX0_29 e0 ?_
      refine r_istore_n (dc_X0_leastFrom 33 rfl) rfl (by decide) (lo' := [(3, .int x10), (0, .ref a0), (1, .int xa1), (2, .int x6)]) rfl ?_
      refine r_iconst (dc_X0_leastFrom 34 rfl) kiconst_1 ?_
      refine r_istore (dc_X0_leastFrom 35 rfl) (by decide) (lo' := [(4, .int (1 : Int32)), (3, .int x10), (0, .ref a0), (1, .int xa1), (2, .int x6)]) rfl ?_
      refine r_pick [2, 3, 4, 1, 0] (lo' := [(0, .ref a0), (1, .int xa1), (2, .int x6), (3, .int x10), (4, .int (1 : Int32))]) rfl ?_
      refine l_X0_leastFrom_L65 hl hd (hk109 := ?_) fu _ _ h
      · intro x16 h
        refine r_iload_n (dc_X0_leastFrom 57 rfl) rfl rfl ?_
        refine r_iconst (dc_X0_leastFrom 58 rfl) kiconst_1 ?_
        refine r_isub (dc_X0_leastFrom 59 rfl) ?_
        refine r_iload_n (dc_X0_leastFrom 60 rfl) rfl rfl ?_
        refine r_iadd (dc_X0_leastFrom 61 rfl) ?_
        refine r_iconst (dc_X0_leastFrom 62 rfl) kiconst_1 ?_
        refine r_isub (dc_X0_leastFrom 63 rfl) ?_
        cases h
        exact r_ireturn (dc_X0_leastFrom 64 rfl) rfl
    · rw [if_neg c0] at h
      refine r_iload_n (dc_X0_leastFrom 28 rfl) rfl rfl ?_
      cases h
      exact r_ireturn (dc_X0_leastFrom 29 rfl) rfl
theorem l_X0_tell_L68 {G : Gx} {d : Nat} (hl : G.1.stackTraces = false) (hd : 2 ≤ d) {pL0 : Nat} {xL1 : Int32} {xL2 : Int32} {xL3 : Int32} {xL4 : Int32} {xL5 : Int32} {xL6 : Int32} {r : (Int32 × Sto)} {k106 : Sto → Option (Int32 × Sto)}
    (hk106 : ∀ (sL : Sto), k106 sL = some r → J G d m_X0_tell 106 [(0, .ref pL0), (1, .int xL1), (2, .int xL2), (3, .int xL3), (5, .int xL5), (6, .int xL6)] [] sL (.inl (some (.int r.1))) r.2)
  : ∀ (f : Nat) (xL7 : Int32) (sL : Sto), F_X0_tell_L68 pL0 xL4 xL5 f xL7 sL k106 = some r → J G d m_X0_tell 68 [(0, .ref pL0), (1, .int xL1), (2, .int xL2), (3, .int xL3), (4, .int xL4), (5, .int xL5), (6, .int xL6), (7, .int xL7)] [] sL (.inl (some (.int r.1))) r.2 := by
  intro f
  induction f with
  | zero => intro xL7 sL h; rw [F_X0_tell_L68] at h; cases h
  | succ f ih =>
    intro xL7 sL h
    rw [F_X0_tell_L68] at h
    refine r_iload (dc_X0_tell 43 rfl) rfl ?_
    refine r_aload_n (dc_X0_tell 44 rfl) rfl rfl ?_
    obtain ⟨p9, e0, h⟩ := Option.bind_eq_some_iff.mp h
    refine r_getR (dc_X0_tell 45 rfl) fl_RX0_21 e0 ?_
    obtain ⟨x10, e0, h⟩ := Option.bind_eq_some_iff.mp h
    refine r_getI (dc_X0_tell 46 rfl) fl_RX0_29 e0 ?_
    refine r_icmp_ge (dc_X0_tell 47 rfl) (tgt := 106) (by decide) (fun c0 => ?_) (fun c0 => ?_)
    · rw [if_pos c0] at h
      refine r_pick [0, 1, 2, 3, 5, 6] (lo' := [(0, .ref pL0), (1, .int xL1), (2, .int xL2), (3, .int xL3), (5, .int xL5), (6, .int xL6)]) rfl ?_
      exact hk106 _ h
    · rw [if_neg c0] at h
      refine r_aload_n (dc_X0_tell 48 rfl) rfl rfl ?_
      obtain ⟨p11, e0, h⟩ := Option.bind_eq_some_iff.mp h
      refine r_getR (dc_X0_tell 49 rfl) fl_RX0_18 e0 ?_
      refine r_iload (dc_X0_tell 50 rfl) rfl ?_
      refine r_iload (dc_X0_tell 51 rfl) rfl ?_
      refine r_iadd (dc_X0_tell 52 rfl) ?_
      refine r_aload_n (dc_X0_tell 53 rfl) rfl rfl ?_
      obtain ⟨p12, e0, h⟩ := Option.bind_eq_some_iff.mp h
      refine r_getR (dc_X0_tell 54 rfl) fl_RX0_18 e0 ?_
      refine r_iload (dc_X0_tell 55 rfl) rfl ?_
      refine r_iload (dc_X0_tell 56 rfl) rfl ?_
      refine r_iadd (dc_X0_tell 57 rfl) ?_
      obtain ⟨x13, e0, h⟩ := Option.bind_eq_some_iff.mp h
      refine r_iald (dc_X0_tell 58 rfl) e0 ?_
      obtain ⟨s14, e0, h⟩ := Option.bind_eq_some_iff.mp h
      refine r_iast (dc_X0_tell 59 rfl) e0 ?_
      refine r_iinc (dc_X0_tell 60 rfl) rfl (kinc_1 _) (by decide) (lo' := [(7, .int (xL7 + (1 : Int32))), (0, .ref pL0), (1, .int xL1), (2, .int xL2), (3, .int xL3), (4, .int xL4), (5, .int xL5), (6, .int xL6)]) rfl ?_
      refine r_goto (dc_X0_tell 61 rfl) (tgt := 68) (by decide) ?_
      refine r_pick [1, 2, 3, 4, 5, 6, 7, 0] (lo' := [(0, .ref pL0), (1, .int xL1), (2, .int xL2), (3, .int xL3), (4, .int xL4), (5, .int xL5), (6, .int xL6), (7, .int (xL7 + (1 : Int32)))]) rfl ?_
      exact ih _ _ h
theorem t_X0_tell {G : Gx} {d : Nat} (hl : G.1.stackTraces = false) (hd : 2 ≤ d) {σ : Sto} {a0 : Nat} {xa1 : Int32} {xa2 : Int32} {xa3 : Int32} {r : (Int32 × Sto)} (h : F_X0_tell σ a0 xa1 xa2 xa3 = some r) : Mi G d m_X0_tell 0 a0 [.int xa1, .int xa2, .int xa3] σ (.inl (some (.int r.1))) r.2 := by
  rw [F_X0_tell] at h
  obtain ⟨hg, h⟩ := chk_some h
  refine ⟨J.toMt (lo := [(0, .ref a0), (1, .int xa1), (2, .int xa2), (3, .int xa3)]) pn_RX0 rfl hl (Nat.le_of_ble_eq_true rfl) rfl ?_, hg⟩
  refine r_iload_n (dc_X0_tell 0 rfl) rfl rfl ?_
  refine r_iconst (dc_X0_tell 1 rfl) kiconst_4 ?_
  refine r_imul (dc_X0_tell 2 rfl) ?_
  refine r_istore (dc_X0_tell 3 rfl) (by decide) (lo' := [(4, .int (xa1 * (4 : Int32))), (0, .ref a0), (1, .int xa1), (2, .int xa2), (3, .int xa3)]) rfl ?_
  refine r_iload (dc_X0_tell 4 rfl) rfl ?_
  refine r_iconst (dc_X0_tell 5 rfl) kiconst_4 ?_
  refine r_iadd (dc_X0_tell 6 rfl) ?_
  refine r_istore (dc_X0_tell 7 rfl) (by decide) (lo' := [(5, .int ((xa1 * (4 : Int32)) + (4 : Int32))), (4, .int (xa1 * (4 : Int32))), (0, .ref a0), (1, .int xa1), (2, .int xa2), (3, .int xa3)]) rfl ?_
  refine r_aload_n (dc_X0_tell 8 rfl) rfl rfl ?_
  obtain ⟨p1, e0, h⟩ := Option.bind_eq_some_iff.mp h
  refine r_getR (dc_X0_tell 9 rfl) fl_RX0_18 e0 ?_
  refine r_iload (dc_X0_tell 10 rfl) rfl ?_
  refine r_iload_n (dc_X0_tell 11 rfl) rfl rfl ?_
  refine r_iadd (dc_X0_tell 12 rfl) ?_
  obtain ⟨x2, e0, h⟩ := Option.bind_eq_some_iff.mp h
  refine r_iald (dc_X0_tell 13 rfl) e0 ?_
  refine r_aload_n (dc_X0_tell 14 rfl) rfl rfl ?_
  obtain ⟨p3, e0, h⟩ := Option.bind_eq_some_iff.mp h
  refine r_getR (dc_X0_tell 15 rfl) fl_RX0_18 e0 ?_
  refine r_iload (dc_X0_tell 16 rfl) rfl ?_
  refine r_iload_n (dc_X0_tell 17 rfl) rfl rfl ?_
  refine r_iadd (dc_X0_tell 18 rfl) ?_
  obtain ⟨x4, e0, h⟩ := Option.bind_eq_some_iff.mp h
  refine r_iald (dc_X0_tell 19 rfl) e0 ?_
  refine r_ior (dc_X0_tell 20 rfl) ?_
  refine r_istore (dc_X0_tell 21 rfl) (by decide) (lo' := [(6, .int (x2 ||| x4)), (5, .int ((xa1 * (4 : Int32)) + (4 : Int32))), (4, .int (xa1 * (4 : Int32))), (0, .ref a0), (1, .int xa1), (2, .int xa2), (3, .int xa3)]) rfl ?_
  refine r_iload_n (dc_X0_tell 22 rfl) rfl rfl ?_
  refine r_iload_n (dc_X0_tell 23 rfl) rfl rfl ?_
  refine r_icmp_eq (dc_X0_tell 24 rfl) (tgt := 63) (by decide) (fun c0 => ?_) (fun c0 => ?_)
  · rw [if_pos c0] at h
    refine r_iconst (dc_X0_tell 39 rfl) kiconst_0 ?_
    cases h
    exact r_zreturn (dc_X0_tell 40 rfl) rfl (Or.inl rfl)
  · rw [if_neg c0] at h
    refine r_aload_n (dc_X0_tell 25 rfl) rfl rfl ?_
    obtain ⟨p5, e0, h⟩ := Option.bind_eq_some_iff.mp h
    refine r_getR (dc_X0_tell 26 rfl) fl_RX0_21 e0 ?_
    refine r_iload_n (dc_X0_tell 27 rfl) rfl rfl ?_
    refine r_iload_n (dc_X0_tell 28 rfl) rfl rfl ?_
    obtain ⟨x6, e0, h⟩ := Option.bind_eq_some_iff.mp h
    refine r_callV (dc_X0_tell 29 rfl) mv_X8_isCut ml_RX0_98 (As := [.int xa2, .int xa3]) (t_X8_isCut (d := d - 1) hl (by omega) e0) (by omega) rfl (Nat.le_of_ble_eq_true rfl) ?_
    refine r_if_ne (dc_X0_tell 30 rfl) (tgt := 63) (by decide) (fun c0 => ?_) (fun c0 => ?_)
    · rw [if_neg c0] at h
      refine r_iconst (dc_X0_tell 39 rfl) kiconst_0 ?_
      cases h
      exact r_zreturn (dc_X0_tell 40 rfl) rfl (Or.inl rfl)
    · rw [if_pos c0] at h
      refine r_iload (dc_X0_tell 31 rfl) rfl ?_
      refine r_aload_n (dc_X0_tell 32 rfl) rfl rfl ?_
      obtain ⟨p7, e0, h⟩ := Option.bind_eq_some_iff.mp h
      refine r_getR (dc_X0_tell 33 rfl) fl_RX0_18 e0 ?_
      refine r_iload (dc_X0_tell 34 rfl) rfl ?_
      refine r_iload_n (dc_X0_tell 35 rfl) rfl rfl ?_
      refine r_iadd (dc_X0_tell 36 rfl) ?_
      obtain ⟨x8, e0, h⟩ := Option.bind_eq_some_iff.mp h
      refine r_iald (dc_X0_tell 37 rfl) e0 ?_
      refine r_icmp_ne (dc_X0_tell 38 rfl) (tgt := 65) (by decide) (fun c0 => ?_) (fun c0 => ?_)
      · rw [if_neg c0] at h
        refine r_iconst (dc_X0_tell 41 rfl) kiconst_0 ?_
        refine r_istore (dc_X0_tell 42 rfl) (by decide) (lo' := [(7, .int (0 : Int32)), (6, .int (x2 ||| x4)), (5, .int ((xa1 * (4 : Int32)) + (4 : Int32))), (4, .int (xa1 * (4 : Int32))), (0, .ref a0), (1, .int xa1), (2, .int xa2), (3, .int xa3)]) rfl ?_
        refine r_pick [4, 5, 6, 7, 3, 2, 1, 0] (lo' := [(0, .ref a0), (1, .int xa1), (2, .int xa2), (3, .int xa3), (4, .int (xa1 * (4 : Int32))), (5, .int ((xa1 * (4 : Int32)) + (4 : Int32))), (6, .int (x2 ||| x4)), (7, .int (0 : Int32))]) rfl ?_
        refine l_X0_tell_L68 hl hd (hk106 := ?_) fu _ _ h
        · intro s15 h
          refine r_aload_n (dc_X0_tell 62 rfl) rfl rfl ?_
          obtain ⟨p16, e0, h⟩ := Option.bind_eq_some_iff.mp h
          refine r_getR (dc_X0_tell 63 rfl) fl_RX0_18 e0 ?_
          refine r_iload (dc_X0_tell 64 rfl) rfl ?_
          refine r_iload_n (dc_X0_tell 65 rfl) rfl rfl ?_
          refine r_iadd (dc_X0_tell 66 rfl) ?_
          refine r_iload (dc_X0_tell 67 rfl) rfl ?_
          obtain ⟨s17, e0, h⟩ := Option.bind_eq_some_iff.mp h
          refine r_iast (dc_X0_tell 68 rfl) e0 ?_
          refine r_aload_n (dc_X0_tell 69 rfl) rfl rfl ?_
          obtain ⟨p18, e0, h⟩ := Option.bind_eq_some_iff.mp h
          refine r_getR (dc_X0_tell 70 rfl) fl_RX0_11 e0 ?_
          refine r_iload_n (dc_X0_tell 71 rfl) rfl rfl ?_
          refine r_iload_n (dc_X0_tell 72 rfl) rfl rfl ?_
          obtain ⟨s19, e0, h⟩ := Option.bind_eq_some_iff.mp h
          refine r_iast (dc_X0_tell 73 rfl) e0 ?_
          refine r_aload_n (dc_X0_tell 74 rfl) rfl rfl ?_
          obtain ⟨p20, e0, h⟩ := Option.bind_eq_some_iff.mp h
          refine r_getR (dc_X0_tell 75 rfl) fl_RX0_15 e0 ?_
          refine r_iload_n (dc_X0_tell 76 rfl) rfl rfl ?_
          refine r_iload_n (dc_X0_tell 77 rfl) rfl rfl ?_
          obtain ⟨s21, e0, h⟩ := Option.bind_eq_some_iff.mp h
          refine r_iast (dc_X0_tell 78 rfl) e0 ?_
          refine r_iconst (dc_X0_tell 79 rfl) kiconst_1 ?_
          cases h
          exact r_zreturn (dc_X0_tell 80 rfl) rfl (Or.inr rfl)
      · rw [if_pos c0] at h
        refine r_iconst (dc_X0_tell 39 rfl) kiconst_0 ?_
        cases h
        exact r_zreturn (dc_X0_tell 40 rfl) rfl (Or.inl rfl)
theorem t_X1_init {G : Gx} {d : Nat} (hl : G.1.stackTraces = false) (hd : 1 ≤ d) {σ : Sto} {a0 : Nat} {r : Unit} (h : F_X1_init σ a0 = some r) : Mt G d m_X1_init [Value.ref a0] σ (.inl none) σ := by
  rw [F_X1_init] at h
  refine J.toMt (lo := [(0, .ref a0)]) pn_RX1 rfl hl (Nat.le_of_ble_eq_true rfl) rfl ?_
  refine r_aload_n (dc_X1_init 0 rfl) rfl rfl ?_
  refine r_objInit (dc_X1_init 1 rfl) ml_RX1_3 w_obj1 w_obj2 (by omega) (Nat.le_of_ble_eq_true rfl) ?_
  cases h
  exact r_vreturn (dc_X1_init 2 rfl) rfl
theorem t_X1_clear {G : Gx} {d : Nat} (hl : G.1.stackTraces = false) (hd : 0 ≤ d) {σ : Sto} {a0 : Nat} {r : Sto} (h : F_X1_clear σ a0 = some r) : Mi G d m_X1_clear 1 a0 [] σ (.inl none) r := by
  rw [F_X1_clear] at h
  obtain ⟨hg, h⟩ := chk_some h
  refine ⟨J.toMt (lo := [(0, .ref a0)]) pn_RX1 rfl hl (Nat.le_of_ble_eq_true rfl) rfl ?_, hg⟩
  refine r_aload_n (dc_X1_clear 0 rfl) rfl rfl ?_
  refine r_lconst (dc_X1_clear 1 rfl) klconst_0 ?_
  obtain ⟨s1, e0, h⟩ := Option.bind_eq_some_iff.mp h
  refine r_put (dc_X1_clear 2 rfl) pl_RX1_9 rfl e0 ?_
  refine r_aload_n (dc_X1_clear 3 rfl) rfl rfl ?_
  refine r_lconst (dc_X1_clear 4 rfl) klconst_0 ?_
  obtain ⟨s2, e0, h⟩ := Option.bind_eq_some_iff.mp h
  refine r_put (dc_X1_clear 5 rfl) pl_RX1_15 rfl e0 ?_
  cases h
  exact r_vreturn (dc_X1_clear 6 rfl) rfl
