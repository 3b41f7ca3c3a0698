theorem t_X10_lostTo {G : Gx} {d : Nat} (hl : G.1.stackTraces = false) (hd : 5 ≤ d) {σ : Sto} {a0 : Nat} {xa1 : Int32} {r : (Int32 × Sto)} (h : F_X10_lostTo σ a0 xa1 = some r) : Mi G d m_X10_lostTo 10 a0 [.int xa1] σ (.inl (some (.int r.1))) r.2 := by
  rw [F_X10_lostTo] at h
  obtain ⟨hg, h⟩ := chk_some h
  refine ⟨J.toMt (lo := [(0, .ref a0), (1, .int xa1)]) pn_RX10 rfl hl (Nat.le_of_ble_eq_true rfl) rfl ?_, hg⟩
  refine r_aload_n (dc_X10_lostTo 0 rfl) rfl rfl ?_
  refine r_iload_n (dc_X10_lostTo 1 rfl) rfl rfl ?_
  obtain ⟨s1, e0, h⟩ := Option.bind_eq_some_iff.mp h
  refine r_callV (dc_X10_lostTo 2 rfl) mv_X10_laysReaches ml_RX10_284 (As := [.int xa1]) (t_X10_laysReaches (d := d - 1) hl (by omega) e0) (by omega) rfl (Nat.le_of_ble_eq_true rfl) ?_
  refine r_iconst (dc_X10_lostTo 3 rfl) kiconst_0 ?_
  refine r_istore_n (dc_X10_lostTo 4 rfl) rfl (by decide) (lo' := [(2, .int (0 : Int32)), (0, .ref a0), (1, .int xa1)]) rfl ?_
  refine r_iconst (dc_X10_lostTo 5 rfl) kiconst_0 ?_
  refine r_istore_n (dc_X10_lostTo 6 rfl) rfl (by decide) (lo' := [(3, .int (0 : Int32)), (2, .int (0 : Int32)), (0, .ref a0), (1, .int xa1)]) rfl ?_
  refine r_pick [2, 3, 1, 0] (lo' := [(0, .ref a0), (1, .int xa1), (2, .int (0 : Int32)), (3, .int (0 : Int32))]) rfl ?_
  refine l_X10_lostTo_L9 hl hd (hk54 := ?_) fu _ _ h
  · intro x9 h
    refine r_iload_n (dc_X10_lostTo 32 rfl) rfl rfl ?_
    cases h
    exact r_ireturn (dc_X10_lostTo 33 rfl) rfl
theorem l_X10_allHave_L2 {G : Gx} {d : Nat} (hl : G.1.stackTraces = false) (hd : 3 ≤ d) {sL : Sto} {pL0 : Nat} {xL1 : Int32} {r : Int32} {k29 : Option Int32}
    (hk29 : k29  = some r → J G d m_X10_allHave 29 [] [] sL (.inl (some (.int r))) sL)
  : ∀ (f : Nat) (xL2 : Int32), F_X10_allHave_L2 sL pL0 xL1 f xL2 k29 = some r → J G d m_X10_allHave 2 [(0, .ref pL0), (1, .int xL1), (2, .int xL2)] [] sL (.inl (some (.int r))) sL := by
  intro f
  induction f with
  | zero => intro xL2 h; rw [F_X10_allHave_L2] at h; cases h
  | succ f ih =>
    intro xL2 h
    rw [F_X10_allHave_L2] at h
    refine r_iload_n (dc_X10_allHave 2 rfl) rfl rfl ?_
    refine r_aload_n (dc_X10_allHave 3 rfl) rfl rfl ?_
    refine r_iconst (dc_X10_allHave 4 rfl) kiconst_0 ?_
    obtain ⟨x1, e0, h⟩ := Option.bind_eq_some_iff.mp h
    refine r_callV (dc_X10_allHave 5 rfl) mv_X10_of ml_RX10_62 (As := [.int (0 : Int32)]) (t_X10_of (d := d - 1) hl (by omega) e0) (by omega) rfl (Nat.le_of_ble_eq_true rfl) ?_
    refine r_icmp_ge (dc_X10_allHave 6 rfl) (tgt := 29) (by decide) (fun c0 => ?_) (fun c0 => ?_)
    · rw [if_pos c0] at h
      refine r_pick [] (lo' := []) rfl ?_
      exact hk29  h
    · rw [if_neg c0] at h
      refine r_aload_n (dc_X10_allHave 7 rfl) rfl rfl ?_
      refine r_iload_n (dc_X10_allHave 8 rfl) rfl rfl ?_
      refine r_iload_n (dc_X10_allHave 9 rfl) rfl rfl ?_
      refine r_iconst (dc_X10_allHave 10 rfl) kiconst_0 ?_
      obtain ⟨x2, e0, h⟩ := Option.bind_eq_some_iff.mp h
      refine r_callV (dc_X10_allHave 11 rfl) mv_X10_doesHave ml_RX10_226 (As := [.int xL2, .int xL1, .int (0 : Int32)]) (t_X10_doesHave (d := d - 1) hl (by omega) e0) (by omega) rfl (Nat.le_of_ble_eq_true rfl) ?_
      refine r_if_eq (dc_X10_allHave 12 rfl) (tgt := 23) (by decide) (fun c0 => ?_) (fun c0 => ?_)
      · rw [if_pos c0] at h
        refine r_iinc (dc_X10_allHave 15 rfl) rfl (kinc_1 _) (by decide) (lo' := [(2, .int (xL2 + (1 : Int32))), (0, .ref pL0), (1, .int xL1)]) rfl ?_
        refine r_goto (dc_X10_allHave 16 rfl) (tgt := 2) (by decide) ?_
        refine r_pick [1, 2, 0] (lo' := [(0, .ref pL0), (1, .int xL1), (2, .int (xL2 + (1 : Int32)))]) rfl ?_
        exact ih _ h
      · rw [if_neg c0] at h
        refine r_iconst (dc_X10_allHave 13 rfl) kiconst_0 ?_
        cases h
        exact r_zreturn (dc_X10_allHave 14 rfl) rfl (Or.inl rfl)
theorem t_X10_allHave {G : Gx} {d : Nat} (hl : G.1.stackTraces = false) (hd : 3 ≤ d) {σ : Sto} {a0 : Nat} {xa1 : Int32} {r : Int32} (h : F_X10_allHave σ a0 xa1 = some r) : Mi G d m_X10_allHave 10 a0 [.int xa1] σ (.inl (some (.int r))) σ := by
  rw [F_X10_allHave] at h
  obtain ⟨hg, h⟩ := chk_some h
  refine ⟨J.toMt (lo := [(0, .ref a0), (1, .int xa1)]) pn_RX10 rfl hl (Nat.le_of_ble_eq_true rfl) rfl ?_, hg⟩
  refine r_iconst (dc_X10_allHave 0 rfl) kiconst_0 ?_
  refine r_istore_n (dc_X10_allHave 1 rfl) rfl (by decide) (lo' := [(2, .int (0 : Int32)), (0, .ref a0), (1, .int xa1)]) rfl ?_
  refine r_pick [1, 2, 0] (lo' := [(0, .ref a0), (1, .int xa1), (2, .int (0 : Int32))]) rfl ?_
  refine l_X10_allHave_L2 hl hd (hk29 := ?_) fu _ h
  · intro h
    refine r_iconst (dc_X10_allHave 17 rfl) kiconst_1 ?_
    cases h
    exact r_zreturn (dc_X10_allHave 18 rfl) rfl (Or.inr rfl)
theorem l_X10_isLogged_L8 {G : Gx} {d : Nat} (hl : G.1.stackTraces = false) (hd : 1 ≤ d) {sL : Sto} {pL0 : Nat} {xL2 : Int32} {xL3 : Int32} {r : Int32} {k44 : Option Int32}
    (hk44 : k44  = some r → J G d m_X10_isLogged 44 [] [] sL (.inl (some (.int r))) sL)
  : ∀ (f : Nat) (xL4 : Int32), F_X10_isLogged_L8 sL pL0 xL2 xL3 f xL4 k44 = some r → J G d m_X10_isLogged 8 [(0, .ref pL0), (2, .int xL2), (3, .int xL3), (4, .int xL4)] [] sL (.inl (some (.int r))) sL := by
  intro f
  induction f with
  | zero => intro xL4 h; rw [F_X10_isLogged_L8] at h; cases h
  | succ f ih =>
    intro xL4 h
    rw [F_X10_isLogged_L8] at h
    refine r_iload (dc_X10_isLogged 5 rfl) rfl ?_
    refine r_aload_n (dc_X10_isLogged 6 rfl) rfl rfl ?_
    refine r_iload_n (dc_X10_isLogged 7 rfl) rfl rfl ?_
    refine r_bipush (dc_X10_isLogged 8 rfl) kbipush_33 ?_
    refine r_iadd (dc_X10_isLogged 9 rfl) ?_
    obtain ⟨x2, e0, h⟩ := Option.bind_eq_some_iff.mp h
    refine r_callV (dc_X10_isLogged 10 rfl) mv_X10_of ml_RX10_62 (As := [.int (xL3 + (33 : Int32))]) (t_X10_of (d := d - 1) hl (by omega) e0) (by omega) rfl (Nat.le_of_ble_eq_true rfl) ?_
    refine r_icmp_ge (dc_X10_isLogged 11 rfl) (tgt := 44) (by decide) (fun c0 => ?_) (fun c0 => ?_)
    · rw [if_pos c0] at h
      refine r_pick [] (lo' := []) rfl ?_
      exact hk44  h
    · rw [if_neg c0] at h
      refine r_aload_n (dc_X10_isLogged 12 rfl) rfl rfl ?_
      refine r_iload_n (dc_X10_isLogged 13 rfl) rfl rfl ?_
      refine r_bipush (dc_X10_isLogged 14 rfl) kbipush_34 ?_
      refine r_iadd (dc_X10_isLogged 15 rfl) ?_
      refine r_iload (dc_X10_isLogged 16 rfl) rfl ?_
      refine r_iadd (dc_X10_isLogged 17 rfl) ?_
      obtain ⟨x3, e0, h⟩ := Option.bind_eq_some_iff.mp h
      refine r_callV (dc_X10_isLogged 18 rfl) mv_X10_of ml_RX10_62 (As := [.int ((xL3 + (34 : Int32)) + xL4)]) (t_X10_of (d := d - 1) hl (by omega) e0) (by omega) rfl (Nat.le_of_ble_eq_true rfl) ?_
      refine r_iload_n (dc_X10_isLogged 19 rfl) rfl rfl ?_
      refine r_icmp_ne (dc_X10_isLogged 20 rfl) (tgt := 38) (by decide) (fun c0 => ?_) (fun c0 => ?_)
      · rw [if_neg c0] at h
        refine r_iinc (dc_X10_isLogged 23 rfl) rfl (kinc_1 _) (by decide) (lo' := [(4, .int (xL4 + (1 : Int32))), (0, .ref pL0), (2, .int xL2), (3, .int xL3)]) rfl ?_
        refine r_goto (dc_X10_isLogged 24 rfl) (tgt := 8) (by decide) ?_
        refine r_pick [1, 2, 3, 0] (lo' := [(0, .ref pL0), (2, .int xL2), (3, .int xL3), (4, .int (xL4 + (1 : Int32)))]) rfl ?_
        exact ih _ h
      · rw [if_pos c0] at h
        refine r_iconst (dc_X10_isLogged 21 rfl) kiconst_1 ?_
        cases h
        exact r_zreturn (dc_X10_isLogged 22 rfl) rfl (Or.inr rfl)
theorem t_X10_isLogged {G : Gx} {d : Nat} (hl : G.1.stackTraces = false) (hd : 1 ≤ d) {σ : Sto} {a0 : Nat} {xa1 : Int32} {xa2 : Int32} {r : Int32} (h : F_X10_isLogged σ a0 xa1 xa2 = some r) : Mi G d m_X10_isLogged 10 a0 [.int xa1, .int xa2] σ (.inl (some (.int r))) σ := by
  rw [F_X10_isLogged] at h
  obtain ⟨hg, h⟩ := chk_some h
  refine ⟨J.toMt (lo := [(0, .ref a0), (1, .int xa1), (2, .int xa2)]) pn_RX10 rfl hl (Nat.le_of_ble_eq_true rfl) rfl ?_, hg⟩
  refine r_iload_n (dc_X10_isLogged 0 rfl) rfl rfl ?_
  obtain ⟨x1, e0, h⟩ := Option.bind_eq_some_iff.mp h
  refine r_callS (dc_X10_isLogged 1 rfl) ms_X10_stateOf ml_RX10_111 (As := [.int xa1]) (t_X10_stateOf (d := d - 1) hl (by omega) e0) (by omega) rfl (Nat.le_of_ble_eq_true rfl) ?_
  refine r_istore_n (dc_X10_isLogged 2 rfl) rfl (by decide) (lo' := [(3, .int x1), (0, .ref a0), (1, .int xa1), (2, .int xa2)]) rfl ?_
  refine r_iconst (dc_X10_isLogged 3 rfl) kiconst_0 ?_
  refine r_istore (dc_X10_isLogged 4 rfl) (by decide) (lo' := [(4, .int (0 : Int32)), (3, .int x1), (0, .ref a0), (1, .int xa1), (2, .int xa2)]) rfl ?_
  refine r_pick [2, 4, 1, 0] (lo' := [(0, .ref a0), (2, .int xa2), (3, .int x1), (4, .int (0 : Int32))]) rfl ?_
  refine l_X10_isLogged_L8 hl hd (hk44 := ?_) fu _ h
  · intro h
    refine r_iconst (dc_X10_isLogged 25 rfl) kiconst_0 ?_
    cases h
    exact r_zreturn (dc_X10_isLogged 26 rfl) rfl (Or.inl rfl)
theorem l_X10_commonOf_L5 {G : Gx} {d : Nat} (hl : G.1.stackTraces = false) (hd : 4 ≤ d) {sL : Sto} {pL0 : Nat} {xL1 : Int32} {xL2 : Int32} {r : Int32} {k55 : Int32 → Option Int32}
    (hk55 : ∀ (xL3 : Int32), k55 xL3 = some r → J G d m_X10_commonOf 55 [(3, .int xL3)] [] sL (.inl (some (.int r))) sL)
  : ∀ (f : Nat) (xL3 : Int32) (xL4 : Int32), F_X10_commonOf_L5 sL pL0 xL1 xL2 f xL3 xL4 k55 = some r → J G d m_X10_commonOf 5 [(0, .ref pL0), (1, .int xL1), (2, .int xL2), (3, .int xL3), (4, .int xL4)] [] sL (.inl (some (.int r))) sL := by
  intro f
  induction f with
  | zero => intro xL3 xL4 h; rw [F_X10_commonOf_L5] at h; cases h
  | succ f ih =>
    intro xL3 xL4 h
    rw [F_X10_commonOf_L5] at h
    refine r_iload (dc_X10_commonOf 4 rfl) rfl ?_
    refine r_aload_n (dc_X10_commonOf 5 rfl) rfl rfl ?_
    refine r_iconst (dc_X10_commonOf 6 rfl) kiconst_2 ?_
    obtain ⟨x1, e0, h⟩ := Option.bind_eq_some_iff.mp h
    refine r_callV (dc_X10_commonOf 7 rfl) mv_X10_of ml_RX10_62 (As := [.int (2 : Int32)]) (t_X10_of (d := d - 1) hl (by omega) e0) (by omega) rfl (Nat.le_of_ble_eq_true rfl) ?_
    refine r_icmp_ge (dc_X10_commonOf 8 rfl) (tgt := 55) (by decide) (fun c0 => ?_) (fun c0 => ?_)
    · rw [if_pos c0] at h
      refine r_pick [3] (lo' := [(3, .int xL3)]) rfl ?_
      exact hk55 _ h
    · rw [if_neg c0] at h
      refine r_iload_n (dc_X10_commonOf 9 rfl) rfl rfl ?_
      refine r_aload_n (dc_X10_commonOf 10 rfl) rfl rfl ?_
      refine r_iload (dc_X10_commonOf 11 rfl) rfl ?_
      obtain ⟨x2, e0, h⟩ := Option.bind_eq_some_iff.mp h
      refine r_callV (dc_X10_commonOf 12 rfl) mv_X10_allHave ml_RX10_287 (As := [.int xL4]) (t_X10_allHave (d := d - 1) hl (by omega) e0) (by omega) rfl (Nat.le_of_ble_eq_true rfl) ?_
      refine jn_elim h (Q := fun (j : Int32 → Option Int32) => ∀ (x4 : Int32), j x4 = some r → J G d m_X10_commonOf 44 [(0, .ref pL0), (1, .int xL1), (2, .int xL2), (4, .int xL4)] [.int x4, .int xL3] sL (.inl (some (.int r))) sL) ?_ (fun j3 hj3 h => ?_)
      · intro x4 h
        obtain ⟨x5, e0, h⟩ := Option.bind_eq_some_iff.mp h
        refine r_callS (dc_X10_commonOf 24 rfl) ms_X10_flag ml_RX10_74 (As := [.int x4]) (t_X10_flag (d := d - 1) hl (by omega) e0) (by omega) rfl (Nat.le_of_ble_eq_true rfl) ?_
        refine r_iadd (dc_X10_commonOf 25 rfl) ?_
        refine r_istore_n (dc_X10_commonOf 26 rfl) rfl (by decide) (lo' := [(3, .int (xL3 + x5)), (0, .ref pL0), (1, .int xL1), (2, .int xL2), (4, .int xL4)]) rfl ?_
        refine r_iinc (dc_X10_commonOf 27 rfl) rfl (kinc_1 _) (by decide) (lo' := [(4, .int (xL4 + (1 : Int32))), (3, .int (xL3 + x5)), (0, .ref pL0), (1, .int xL1), (2, .int xL2)]) rfl ?_
        refine r_goto (dc_X10_commonOf 28 rfl) (tgt := 5) (by decide) ?_
        refine r_pick [2, 3, 4, 1, 0] (lo' := [(0, .ref pL0), (1, .int xL1), (2, .int xL2), (3, .int (xL3 + x5)), (4, .int (xL4 + (1 : Int32)))]) rfl ?_
        exact ih _ _ h
      refine r_if_eq (dc_X10_commonOf 13 rfl) (tgt := 43) (by decide) (fun c0 => ?_) (fun c0 => ?_)
      · rw [if_pos c0] at h
        refine r_iconst (dc_X10_commonOf 23 rfl) kiconst_0 ?_
        refine r_pick [0, 1, 2, 4] (lo' := [(0, .ref pL0), (1, .int xL1), (2, .int xL2), (4, .int xL4)]) rfl ?_
        exact hj3 _ h
      · rw [if_neg c0] at h
        refine r_iload_n (dc_X10_commonOf 14 rfl) rfl rfl ?_
        refine r_if_eq (dc_X10_commonOf 15 rfl) (tgt := 39) (by decide) (fun c0 => ?_) (fun c0 => ?_)
        · rw [if_pos c0] at h
          refine r_iconst (dc_X10_commonOf 21 rfl) kiconst_1 ?_
          refine r_goto (dc_X10_commonOf 22 rfl) (tgt := 44) (by decide) ?_
          refine r_pick [0, 1, 2, 4] (lo' := [(0, .ref pL0), (1, .int xL1), (2, .int xL2), (4, .int xL4)]) rfl ?_
          exact hj3 _ h
        · rw [if_neg c0] at h
          refine r_aload_n (dc_X10_commonOf 16 rfl) rfl rfl ?_
          refine r_iload_n (dc_X10_commonOf 17 rfl) rfl rfl ?_
          refine r_iload (dc_X10_commonOf 18 rfl) rfl ?_
          obtain ⟨x6, e0, h⟩ := Option.bind_eq_some_iff.mp h
          refine r_callV (dc_X10_commonOf 19 rfl) mv_X10_isLogged ml_RX10_290 (As := [.int xL1, .int xL4]) (t_X10_isLogged (d := d - 1) hl (by omega) e0) (by omega) rfl (Nat.le_of_ble_eq_true rfl) ?_
          refine r_if_eq (dc_X10_commonOf 20 rfl) (tgt := 43) (by decide) (fun c0 => ?_) (fun c0 => ?_)
          · rw [if_pos c0] at h
            refine r_iconst (dc_X10_commonOf 23 rfl) kiconst_0 ?_
            refine r_pick [0, 1, 2, 4] (lo' := [(0, .ref pL0), (1, .int xL1), (2, .int xL2), (4, .int xL4)]) rfl ?_
            exact hj3 _ h
          · rw [if_neg c0] at h
            refine r_iconst (dc_X10_commonOf 21 rfl) kiconst_1 ?_
            refine r_goto (dc_X10_commonOf 22 rfl) (tgt := 44) (by decide) ?_
            refine r_pick [0, 1, 2, 4] (lo' := [(0, .ref pL0), (1, .int xL1), (2, .int xL2), (4, .int xL4)]) rfl ?_
            exact hj3 _ h
theorem t_X10_commonOf {G : Gx} {d : Nat} (hl : G.1.stackTraces = false) (hd : 4 ≤ d) {σ : Sto} {a0 : Nat} {xa1 : Int32} {xa2 : Int32} {r : Int32} (h : F_X10_commonOf σ a0 xa1 xa2 = some r) : Mi G d m_X10_commonOf 10 a0 [.int xa1, .int xa2] σ (.inl (some (.int r))) σ := by
  rw [F_X10_commonOf] at h
  obtain ⟨hg, h⟩ := chk_some h
  refine ⟨J.toMt (lo := [(0, .ref a0), (1, .int xa1), (2, .int xa2)]) pn_RX10 rfl hl (Nat.le_of_ble_eq_true rfl) rfl ?_, hg⟩
  refine r_iconst (dc_X10_commonOf 0 rfl) kiconst_0 ?_
  refine r_istore_n (dc_X10_commonOf 1 rfl) rfl (by decide) (lo' := [(3, .int (0 : Int32)), (0, .ref a0), (1, .int xa1), (2, .int xa2)]) rfl ?_
  refine r_iconst (dc_X10_commonOf 2 rfl) kiconst_0 ?_
  refine r_istore (dc_X10_commonOf 3 rfl) (by decide) (lo' := [(4, .int (0 : Int32)), (3, .int (0 : Int32)), (0, .ref a0), (1, .int xa1), (2, .int xa2)]) rfl ?_
  refine r_pick [2, 3, 4, 1, 0] (lo' := [(0, .ref a0), (1, .int xa1), (2, .int xa2), (3, .int (0 : Int32)), (4, .int (0 : Int32))]) rfl ?_
  refine l_X10_commonOf_L5 hl hd (hk55 := ?_) fu _ _ h
  · intro x7 h
    refine r_iload_n (dc_X10_commonOf 29 rfl) rfl rfl ?_
    cases h
    exact r_ireturn (dc_X10_commonOf 30 rfl) rfl
theorem t_X10_site {G : Gx} {d : Nat} (hl : G.1.stackTraces = false) (hd : 6 ≤ d) {σ : Sto} {a0 : Nat} {xa1 : Int32} {xa2 : Int32} {r : (Int32 × Sto)} (h : F_X10_site σ a0 xa1 xa2 = some r) : Mi G d m_X10_site 10 a0 [.int xa1, .int xa2] σ (.inl (some (.int r.1))) r.2 := by
  rw [F_X10_site] at h
  obtain ⟨hg, h⟩ := chk_some h
  refine ⟨J.toMt (lo := [(0, .ref a0), (1, .int xa1), (2, .int xa2)]) pn_RX10 rfl hl (Nat.le_of_ble_eq_true rfl) rfl ?_, hg⟩
  refine r_aload_n (dc_X10_site 0 rfl) rfl rfl ?_
  refine r_iconst (dc_X10_site 1 rfl) kiconst_0 ?_
  obtain ⟨s1, e0, h⟩ := Option.bind_eq_some_iff.mp h
  refine r_put (dc_X10_site 2 rfl) pl_RX10_1 rfl e0 ?_
  refine r_aload_n (dc_X10_site 3 rfl) rfl rfl ?_
  refine r_iconst (dc_X10_site 4 rfl) kiconst_0 ?_
  obtain ⟨s2, e0, h⟩ := Option.bind_eq_some_iff.mp h
  refine r_put (dc_X10_site 5 rfl) pl_RX10_59 rfl e0 ?_
  refine r_aload_n (dc_X10_site 6 rfl) rfl rfl ?_
  refine r_iload_n (dc_X10_site 7 rfl) rfl rfl ?_
  obtain ⟨x3, e0, h⟩ := Option.bind_eq_some_iff.mp h
  refine r_callV (dc_X10_site 8 rfl) mv_X10_isSite ml_RX10_93 (As := [.int xa1]) (t_X10_isSite (d := d - 1) hl (by omega) e0) (by omega) rfl (Nat.le_of_ble_eq_true rfl) ?_
  refine r_if_ne (dc_X10_site 9 rfl) (tgt := 24) (by decide) (fun c0 => ?_) (fun c0 => ?_)
  · rw [if_neg c0] at h
    refine r_iload_n (dc_X10_site 14 rfl) rfl rfl ?_
    obtain ⟨x4, e0, h⟩ := Option.bind_eq_some_iff.mp h
    refine r_callS (dc_X10_site 15 rfl) ms_X10_stateOf ml_RX10_111 (As := [.int xa1]) (t_X10_stateOf (d := d - 1) hl (by omega) e0) (by omega) rfl (Nat.le_of_ble_eq_true rfl) ?_
    refine r_istore_n (dc_X10_site 16 rfl) rfl (by decide) (lo' := [(3, .int x4), (0, .ref a0), (1, .int xa1), (2, .int xa2)]) rfl ?_
    refine r_iload_n (dc_X10_site 17 rfl) rfl rfl ?_
    by_cases c0 : xa2 = (0 : Int32)
    · rw [if_pos c0] at h
      refine r_tsInE c0 (dc_X10_site 18 rfl) (tgt := 76) (off := 46) (by decide) (by decide) (by decide) (by decide) ?_
      refine r_aload_n (dc_X10_site 19 rfl) rfl rfl ?_
      obtain ⟨p5, e0, h⟩ := Option.bind_eq_some_iff.mp h
      refine r_getR (dc_X10_site 20 rfl) fl_RX10_14 e0 ?_
      refine r_iload_n (dc_X10_site 21 rfl) rfl rfl ?_
      obtain ⟨x6, e0, h⟩ := Option.bind_eq_some_iff.mp h
      refine r_callS (dc_X10_site 22 rfl) ms_X10_clockOf ml_RX10_131 (As := [.int xa1]) (t_X10_clockOf (d := d - 1) hl (by omega) e0) (by omega) rfl (Nat.le_of_ble_eq_true rfl) ?_
      obtain ⟨x7, e0, h⟩ := Option.bind_eq_some_iff.mp h
      refine r_iald (dc_X10_site 23 rfl) e0 ?_
      cases h
      exact r_ireturn (dc_X10_site 24 rfl) rfl
    rw [if_neg c0] at h
    by_cases c1 : xa2 = (1 : Int32)
    · rw [if_pos c1] at h
      refine r_tsInE c1 (dc_X10_site 18 rfl) (tgt := 86) (off := 56) (by decide) (by decide) (by decide) (by decide) ?_
      refine r_aload_n (dc_X10_site 25 rfl) rfl rfl ?_
      refine r_iload_n (dc_X10_site 26 rfl) rfl rfl ?_
      refine r_bipush (dc_X10_site 27 rfl) kbipush_29 ?_
      refine r_iadd (dc_X10_site 28 rfl) ?_
      obtain ⟨x8, e0, h⟩ := Option.bind_eq_some_iff.mp h
      refine r_callV (dc_X10_site 29 rfl) mv_X10_bitsOf ml_RX10_233 (As := [.int (x4 + (29 : Int32))]) (t_X10_bitsOf (d := d - 1) hl (by omega) e0) (by omega) rfl (Nat.le_of_ble_eq_true rfl) ?_
      cases h
      exact r_ireturn (dc_X10_site 30 rfl) rfl
    rw [if_neg c1] at h
    by_cases c2 : xa2 = (2 : Int32)
    · rw [if_pos c2] at h
      refine r_tsInE c2 (dc_X10_site 18 rfl) (tgt := 95) (off := 65) (by decide) (by decide) (by decide) (by decide) ?_
      refine r_aload_n (dc_X10_site 31 rfl) rfl rfl ?_
      obtain ⟨p9, e0, h⟩ := Option.bind_eq_some_iff.mp h
      refine r_getR (dc_X10_site 32 rfl) fl_RX10_14 e0 ?_
      refine r_iload_n (dc_X10_site 33 rfl) rfl rfl ?_
      refine r_bipush (dc_X10_site 34 rfl) kbipush_33 ?_
      refine r_iadd (dc_X10_site 35 rfl) ?_
      obtain ⟨x10, e0, h⟩ := Option.bind_eq_some_iff.mp h
      refine r_iald (dc_X10_site 36 rfl) e0 ?_
      cases h
      exact r_ireturn (dc_X10_site 37 rfl) rfl
    rw [if_neg c2] at h
    by_cases c3 : xa2 = (3 : Int32)
    · rw [if_pos c3] at h
      refine r_tsInE c3 (dc_X10_site 18 rfl) (tgt := 105) (off := 75) (by decide) (by decide) (by decide) (by decide) ?_
      refine r_aload_n (dc_X10_site 38 rfl) rfl rfl ?_
      refine r_iload_n (dc_X10_site 39 rfl) rfl rfl ?_
      obtain ⟨x11, e0, h⟩ := Option.bind_eq_some_iff.mp h
      refine r_callV (dc_X10_site 40 rfl) mv_X10_hasMany ml_RX10_239 (As := [.int xa1]) (t_X10_hasMany (d := d - 1) hl (by omega) e0) (by omega) rfl (Nat.le_of_ble_eq_true rfl) ?_
      cases h
      exact r_ireturn (dc_X10_site 41 rfl) rfl
    rw [if_neg c3] at h
    by_cases c4 : xa2 = (4 : Int32)
    · rw [if_pos c4] at h
      refine r_tsInE c4 (dc_X10_site 18 rfl) (tgt := 111) (off := 81) (by decide) (by decide) (by decide) (by decide) ?_
      refine r_aload_n (dc_X10_site 42 rfl) rfl rfl ?_
      refine r_iload_n (dc_X10_site 43 rfl) rfl rfl ?_
      obtain ⟨x12, e0, h⟩ := Option.bind_eq_some_iff.mp h
      refine r_callV (dc_X10_site 44 rfl) mv_X10_overstatedOf ml_RX10_278 (As := [.int xa1]) (t_X10_overstatedOf (d := d - 1) hl (by omega) e0) (by omega) rfl (Nat.le_of_ble_eq_true rfl) ?_
      cases h
      exact r_ireturn (dc_X10_site 45 rfl) rfl
    rw [if_neg c4] at h
    by_cases c5 : xa2 = (5 : Int32)
    · rw [if_pos c5] at h
      refine r_tsInE c5 (dc_X10_site 18 rfl) (tgt := 117) (off := 87) (by decide) (by decide) (by decide) (by decide) ?_
      refine r_aload_n (dc_X10_site 46 rfl) rfl rfl ?_
      refine r_iload_n (dc_X10_site 47 rfl) rfl rfl ?_
      obtain ⟨x14, s13, e0, h⟩ := wb_some h
      refine r_callV (dc_X10_site 48 rfl) mv_X10_lostTo ml_RX10_293 (As := [.int xa1]) (t_X10_lostTo (d := d - 1) hl (by omega) e0) (by omega) rfl (Nat.le_of_ble_eq_true rfl) ?_
      cases h
      exact r_ireturn (dc_X10_site 49 rfl) rfl
    rw [if_neg c5] at h
    by_cases c6 : xa2 = (6 : Int32)
    · rw [if_pos c6] at h
      refine r_tsInE c6 (dc_X10_site 18 rfl) (tgt := 123) (off := 93) (by decide) (by decide) (by decide) (by decide) ?_
      refine r_aload_n (dc_X10_site 50 rfl) rfl rfl ?_
      refine r_iload_n (dc_X10_site 51 rfl) rfl rfl ?_
      refine r_iconst (dc_X10_site 52 rfl) kiconst_0 ?_
      obtain ⟨x15, e0, h⟩ := Option.bind_eq_some_iff.mp h
      refine r_callV (dc_X10_site 53 rfl) mv_X10_commonOf ml_RX10_296 (As := [.int xa1, .int (0 : Int32)]) (t_X10_commonOf (d := d - 1) hl (by omega) e0) (by omega) rfl (Nat.le_of_ble_eq_true rfl) ?_
      cases h
      exact r_ireturn (dc_X10_site 54 rfl) rfl
    rw [if_neg c6] at h
    by_cases c7 : xa2 = (7 : Int32)
    · rw [if_pos c7] at h
      refine r_tsInE c7 (dc_X10_site 18 rfl) (tgt := 130) (off := 100) (by decide) (by decide) (by decide) (by decide) ?_
      refine r_aload_n (dc_X10_site 55 rfl) rfl rfl ?_
      refine r_iload_n (dc_X10_site 56 rfl) rfl rfl ?_
      refine r_iconst (dc_X10_site 57 rfl) kiconst_1 ?_
      obtain ⟨x16, e0, h⟩ := Option.bind_eq_some_iff.mp h
      refine r_callV (dc_X10_site 58 rfl) mv_X10_commonOf ml_RX10_296 (As := [.int xa1, .int (1 : Int32)]) (t_X10_commonOf (d := d - 1) hl (by omega) e0) (by omega) rfl (Nat.le_of_ble_eq_true rfl) ?_
      cases h
      exact r_ireturn (dc_X10_site 59 rfl) rfl
    rw [if_neg c7] at h
    refine r_tsOut (dc_X10_site 18 rfl) (tgt := 137) (ts_out (n := 8) (fun k hk => match k, hk with | 0, _ => c0 | 1, _ => c1 | 2, _ => c2 | 3, _ => c3 | 4, _ => c4 | 5, _ => c5 | 6, _ => c6 | 7, _ => c7 | k + 8, hk => absurd hk (by omega)) (by decide)) (by decide) ?_
    refine r_aload_n (dc_X10_site 60 rfl) rfl rfl ?_
    refine r_iconst (dc_X10_site 61 rfl) kiconst_2 ?_
    obtain ⟨x18, s17, e0, h⟩ := wb_some h
    refine r_callV (dc_X10_site 62 rfl) mv_X10_fails ml_RX10_101 (As := [.int (2 : Int32)]) (t_X10_fails (d := d - 1) hl (by omega) e0) (by omega) rfl (Nat.le_of_ble_eq_true rfl) ?_
    cases h
    exact r_ireturn (dc_X10_site 63 rfl) rfl
  · rw [if_pos c0] at h
    refine r_aload_n (dc_X10_site 10 rfl) rfl rfl ?_
    refine r_iconst (dc_X10_site 11 rfl) kiconst_1 ?_
    obtain ⟨x20, s19, e0, h⟩ := wb_some h
    refine r_callV (dc_X10_site 12 rfl) mv_X10_fails ml_RX10_101 (As := [.int (1 : Int32)]) (t_X10_fails (d := d - 1) hl (by omega) e0) (by omega) rfl (Nat.le_of_ble_eq_true rfl) ?_
    cases h
    exact r_ireturn (dc_X10_site 13 rfl) rfl
theorem t_X10_isOnly {G : Gx} {d : Nat} (hl : G.1.stackTraces = false) (hd : 2 ≤ d) {σ : Sto} {a0 : Nat} {xa1 : Int32} {xa2 : Int32} {xa3 : Int32} {r : Int32} (h : F_X10_isOnly σ a0 xa1 xa2 xa3 = some r) : Mi G d m_X10_isOnly 10 a0 [.int xa1, .int xa2, .int xa3] σ (.inl (some (.int r))) σ := by
  rw [F_X10_isOnly] at h
  obtain ⟨hg, h⟩ := chk_some h
  refine ⟨J.toMt (lo := [(0, .ref a0), (1, .int xa1), (2, .int xa2), (3, .int xa3)]) pn_RX10 rfl hl (Nat.le_of_ble_eq_true rfl) rfl ?_, hg⟩
  refine r_aload_n (dc_X10_isOnly 0 rfl) rfl rfl ?_
  refine r_iload_n (dc_X10_isOnly 1 rfl) rfl rfl ?_
  obtain ⟨x1, e0, h⟩ := Option.bind_eq_some_iff.mp h
  refine r_callS (dc_X10_isOnly 2 rfl) ms_X10_stateOf ml_RX10_111 (As := [.int xa1]) (t_X10_stateOf (d := d - 1) hl (by omega) e0) (by omega) rfl (Nat.le_of_ble_eq_true rfl) ?_
  refine r_bipush (dc_X10_isOnly 3 rfl) kbipush_29 ?_
  refine r_iadd (dc_X10_isOnly 4 rfl) ?_
  refine r_iload_n (dc_X10_isOnly 5 rfl) rfl rfl ?_
  obtain ⟨x2, e0, h⟩ := Option.bind_eq_some_iff.mp h
  refine r_callV (dc_X10_isOnly 6 rfl) mv_X10_isOf ml_RX10_70 (As := [.int (x1 + (29 : Int32)), .int xa3]) (t_X10_isOf (d := d - 1) hl (by omega) e0) (by omega) rfl (Nat.le_of_ble_eq_true rfl) ?_
  refine r_if_eq (dc_X10_isOnly 7 rfl) (tgt := 34) (by decide) (fun c0 => ?_) (fun c0 => ?_)
  · rw [if_pos c0] at h
    refine r_iconst (dc_X10_isOnly 18 rfl) kiconst_0 ?_
    cases h
    exact r_zreturn (dc_X10_isOnly 19 rfl) rfl (Or.inl rfl)
  · rw [if_neg c0] at h
    refine r_aload_n (dc_X10_isOnly 8 rfl) rfl rfl ?_
    refine r_iload_n (dc_X10_isOnly 9 rfl) rfl rfl ?_
    obtain ⟨x3, e0, h⟩ := Option.bind_eq_some_iff.mp h
    refine r_callS (dc_X10_isOnly 10 rfl) ms_X10_stateOf ml_RX10_111 (As := [.int xa2]) (t_X10_stateOf (d := d - 1) hl (by omega) e0) (by omega) rfl (Nat.le_of_ble_eq_true rfl) ?_
    refine r_bipush (dc_X10_isOnly 11 rfl) kbipush_29 ?_
    refine r_iadd (dc_X10_isOnly 12 rfl) ?_
    refine r_iload_n (dc_X10_isOnly 13 rfl) rfl rfl ?_
    obtain ⟨x4, e0, h⟩ := Option.bind_eq_some_iff.mp h
    refine r_callV (dc_X10_isOnly 14 rfl) mv_X10_isOf ml_RX10_70 (As := [.int (x3 + (29 : Int32)), .int xa3]) (t_X10_isOf (d := d - 1) hl (by omega) e0) (by omega) rfl (Nat.le_of_ble_eq_true rfl) ?_
    refine r_if_ne (dc_X10_isOnly 15 rfl) (tgt := 34) (by decide) (fun c0 => ?_) (fun c0 => ?_)
    · rw [if_neg c0] at h
      refine r_iconst (dc_X10_isOnly 18 rfl) kiconst_0 ?_
      cases h
      exact r_zreturn (dc_X10_isOnly 19 rfl) rfl (Or.inl rfl)
    · rw [if_pos c0] at h
      refine r_iconst (dc_X10_isOnly 16 rfl) kiconst_1 ?_
      refine r_goto (dc_X10_isOnly 17 rfl) (tgt := 35) (by decide) ?_
      cases h
      exact r_zreturn (dc_X10_isOnly 19 rfl) rfl (Or.inr rfl)
theorem l_X10_unlike_L30 {G : Gx} {d : Nat} (hl : G.1.stackTraces = false) (hd : 3 ≤ d) {sL : Sto} {pL0 : Nat} {xL1 : Int32} {xL2 : Int32} {r : (Int32 × Sto)} {k61 : Int32 → Option (Int32 × Sto)}
    (hk61 : ∀ (xL3 : Int32), k61 xL3 = some r → J G d m_X10_unlike 61 [(3, .int xL3)] [] sL (.inl (some (.int r.1))) r.2)
  : ∀ (f : Nat) (xL3 : Int32) (xL4 : Int32), F_X10_unlike_L30 sL pL0 xL1 xL2 f xL3 xL4 k61 = some r → J G d m_X10_unlike 30 [(0, .ref pL0), (1, .int xL1), (2, .int xL2), (3, .int xL3), (4, .int xL4)] [] sL (.inl (some (.int r.1))) r.2 := by
  intro f
  induction f with
  | zero => intro xL3 xL4 h; rw [F_X10_unlike_L30] at h; cases h
  | succ f ih =>
    intro xL3 xL4 h
    rw [F_X10_unlike_L30] at h
    refine r_iload (dc_X10_unlike 19 rfl) rfl ?_
    refine r_aload_n (dc_X10_unlike 20 rfl) rfl rfl ?_
    obtain ⟨p4, e0, h⟩ := Option.bind_eq_some_iff.mp h
    refine r_getR (dc_X10_unlike 21 rfl) fl_RX10_14 e0 ?_
    refine r_iconst (dc_X10_unlike 22 rfl) kiconst_2 ?_
    obtain ⟨x5, e0, h⟩ := Option.bind_eq_some_iff.mp h
    refine r_iald (dc_X10_unlike 23 rfl) e0 ?_
    refine r_icmp_ge (dc_X10_unlike 24 rfl) (tgt := 61) (by decide) (fun c0 => ?_) (fun c0 => ?_)
    · rw [if_pos c0] at h
      refine r_pick [3] (lo' := [(3, .int xL3)]) rfl ?_
      exact hk61 _ h
    · rw [if_neg c0] at h
      refine r_iload_n (dc_X10_unlike 25 rfl) rfl rfl ?_
      refine r_aload_n (dc_X10_unlike 26 rfl) rfl rfl ?_
      refine r_iload_n (dc_X10_unlike 27 rfl) rfl rfl ?_
      refine r_iload_n (dc_X10_unlike 28 rfl) rfl rfl ?_
      refine r_iload (dc_X10_unlike 29 rfl) rfl ?_
      obtain ⟨x6, e0, h⟩ := Option.bind_eq_some_iff.mp h
      refine r_callV (dc_X10_unlike 30 rfl) mv_X10_isOnly ml_RX10_300 (As := [.int xL1, .int xL2, .int xL4]) (t_X10_isOnly (d := d - 1) hl (by omega) e0) (by omega) rfl (Nat.le_of_ble_eq_true rfl) ?_
      obtain ⟨x7, e0, h⟩ := Option.bind_eq_some_iff.mp h
      refine r_callS (dc_X10_unlike 31 rfl) ms_X10_flag ml_RX10_74 (As := [.int x6]) (t_X10_flag (d := d - 1) hl (by omega) e0) (by omega) rfl (Nat.le_of_ble_eq_true rfl) ?_
      refine r_iadd (dc_X10_unlike 32 rfl) ?_
      refine r_istore_n (dc_X10_unlike 33 rfl) rfl (by decide) (lo' := [(3, .int (xL3 + x7)), (0, .ref pL0), (1, .int xL1), (2, .int xL2), (4, .int xL4)]) rfl ?_
      refine r_iinc (dc_X10_unlike 34 rfl) rfl (kinc_1 _) (by decide) (lo' := [(4, .int (xL4 + (1 : Int32))), (3, .int (xL3 + x7)), (0, .ref pL0), (1, .int xL1), (2, .int xL2)]) rfl ?_
      refine r_goto (dc_X10_unlike 35 rfl) (tgt := 30) (by decide) ?_
      refine r_pick [2, 3, 4, 1, 0] (lo' := [(0, .ref pL0), (1, .int xL1), (2, .int xL2), (3, .int (xL3 + x7)), (4, .int (xL4 + (1 : Int32)))]) rfl ?_
      exact ih _ _ h
theorem t_X10_unlike {G : Gx} {d : Nat} (hl : G.1.stackTraces = false) (hd : 3 ≤ d) {σ : Sto} {a0 : Nat} {xa1 : Int32} {xa2 : Int32} {r : (Int32 × Sto)} (h : F_X10_unlike σ a0 xa1 xa2 = some r) : Mi G d m_X10_unlike 10 a0 [.int xa1, .int xa2] σ (.inl (some (.int r.1))) r.2 := by
  rw [F_X10_unlike] at h
  obtain ⟨hg, h⟩ := chk_some h
  refine ⟨J.toMt (lo := [(0, .ref a0), (1, .int xa1), (2, .int xa2)]) pn_RX10 rfl hl (Nat.le_of_ble_eq_true rfl) rfl ?_, hg⟩
  refine r_aload_n (dc_X10_unlike 0 rfl) rfl rfl ?_
  refine r_iconst (dc_X10_unlike 1 rfl) kiconst_0 ?_
  obtain ⟨s1, e0, h⟩ := Option.bind_eq_some_iff.mp h
  refine r_put (dc_X10_unlike 2 rfl) pl_RX10_1 rfl e0 ?_
  refine r_aload_n (dc_X10_unlike 3 rfl) rfl rfl ?_
  refine r_iconst (dc_X10_unlike 4 rfl) kiconst_0 ?_
  obtain ⟨s2, e0, h⟩ := Option.bind_eq_some_iff.mp h
  refine r_put (dc_X10_unlike 5 rfl) pl_RX10_59 rfl e0 ?_
  refine r_aload_n (dc_X10_unlike 6 rfl) rfl rfl ?_
  refine r_iload_n (dc_X10_unlike 7 rfl) rfl rfl ?_
  refine r_iload_n (dc_X10_unlike 8 rfl) rfl rfl ?_
  obtain ⟨x3, e0, h⟩ := Option.bind_eq_some_iff.mp h
  refine r_callV (dc_X10_unlike 9 rfl) mv_X10_areTwo ml_RX10_211 (As := [.int xa1, .int xa2]) (t_X10_areTwo (d := d - 1) hl (by omega) e0) (by omega) rfl (Nat.le_of_ble_eq_true rfl) ?_
  refine r_if_ne (dc_X10_unlike 10 rfl) (tgt := 25) (by decide) (fun c0 => ?_) (fun c0 => ?_)
  · rw [if_neg c0] at h
    refine r_iconst (dc_X10_unlike 15 rfl) kiconst_0 ?_
    refine r_istore_n (dc_X10_unlike 16 rfl) rfl (by decide) (lo' := [(3, .int (0 : Int32)), (0, .ref a0), (1, .int xa1), (2, .int xa2)]) rfl ?_
    refine r_iconst (dc_X10_unlike 17 rfl) kiconst_0 ?_
    refine r_istore (dc_X10_unlike 18 rfl) (by decide) (lo' := [(4, .int (0 : Int32)), (3, .int (0 : Int32)), (0, .ref a0), (1, .int xa1), (2, .int xa2)]) rfl ?_
    refine r_pick [2, 3, 4, 1, 0] (lo' := [(0, .ref a0), (1, .int xa1), (2, .int xa2), (3, .int (0 : Int32)), (4, .int (0 : Int32))]) rfl ?_
    refine l_X10_unlike_L30 hl hd (hk61 := ?_) fu _ _ h
    · intro x8 h
      refine r_iload_n (dc_X10_unlike 36 rfl) rfl rfl ?_
      cases h
      exact r_ireturn (dc_X10_unlike 37 rfl) rfl
  · rw [if_pos c0] at h
    refine r_aload_n (dc_X10_unlike 11 rfl) rfl rfl ?_
    refine r_iconst (dc_X10_unlike 12 rfl) kiconst_1 ?_
    obtain ⟨x10, s9, e0, h⟩ := wb_some h
    refine r_callV (dc_X10_unlike 13 rfl) mv_X10_fails ml_RX10_101 (As := [.int (1 : Int32)]) (t_X10_fails (d := d - 1) hl (by omega) e0) (by omega) rfl (Nat.le_of_ble_eq_true rfl) ?_
    cases h
    exact r_ireturn (dc_X10_unlike 14 rfl) rfl
theorem l_X10_only_L31 {G : Gx} {d : Nat} (hl : G.1.stackTraces = false) (hd : 3 ≤ d) {sL : Sto} {pL0 : Nat} {xL1 : Int32} {xL2 : Int32} {r : (Int32 × Sto)} {k73 : Option (Int32 × Sto)}
    (hk73 : k73  = some r → J G d m_X10_only 73 [] [] sL (.inl (some (.int r.1))) r.2)
  : ∀ (f : Nat) (xL4 : Int32) (xL5 : Int32), F_X10_only_L31 sL pL0 xL1 xL2 f xL4 xL5 k73 = some r → J G d m_X10_only 31 [(0, .ref pL0), (1, .int xL1), (2, .int xL2), (4, .int xL4), (5, .int xL5)] [] sL (.inl (some (.int r.1))) r.2 := by
  intro f
  induction f with
  | zero => intro xL4 xL5 h; rw [F_X10_only_L31] at h; cases h
  | succ f ih =>
    intro xL4 xL5 h
    rw [F_X10_only_L31] at h
    refine r_iload (dc_X10_only 19 rfl) rfl ?_
    refine r_aload_n (dc_X10_only 20 rfl) rfl rfl ?_
    obtain ⟨p4, e0, h⟩ := Option.bind_eq_some_iff.mp h
    refine r_getR (dc_X10_only 21 rfl) fl_RX10_14 e0 ?_
    refine r_iconst (dc_X10_only 22 rfl) kiconst_2 ?_
    obtain ⟨x5, e0, h⟩ := Option.bind_eq_some_iff.mp h
    refine r_iald (dc_X10_only 23 rfl) e0 ?_
    refine r_icmp_ge (dc_X10_only 24 rfl) (tgt := 73) (by decide) (fun c0 => ?_) (fun c0 => ?_)
    · rw [if_pos c0] at h
      refine r_pick [] (lo' := []) rfl ?_
      exact hk73  h
    · rw [if_neg c0] at h
      refine r_aload_n (dc_X10_only 25 rfl) rfl rfl ?_
      refine r_iload_n (dc_X10_only 26 rfl) rfl rfl ?_
      refine r_iload_n (dc_X10_only 27 rfl) rfl rfl ?_
      refine r_iload (dc_X10_only 28 rfl) rfl ?_
      obtain ⟨x6, e0, h⟩ := Option.bind_eq_some_iff.mp h
      refine r_callV (dc_X10_only 29 rfl) mv_X10_isOnly ml_RX10_300 (As := [.int xL1, .int xL2, .int xL5]) (t_X10_isOnly (d := d - 1) hl (by omega) e0) (by omega) rfl (Nat.le_of_ble_eq_true rfl) ?_
      refine r_if_ne (dc_X10_only 30 rfl) (tgt := 56) (by decide) (fun c0 => ?_) (fun c0 => ?_)
      · rw [if_neg c0] at h
        refine r_iload (dc_X10_only 32 rfl) rfl ?_
        refine r_if_ne (dc_X10_only 33 rfl) (tgt := 64) (by decide) (fun c0 => ?_) (fun c0 => ?_)
        · rw [if_neg c0] at h
          refine r_iinc (dc_X10_only 36 rfl) rfl (kinc_m1 _) (by decide) (lo' := [(4, .int (xL4 + (-1 : Int32))), (0, .ref pL0), (1, .int xL1), (2, .int xL2), (5, .int xL5)]) rfl ?_
          refine r_iinc (dc_X10_only 37 rfl) rfl (kinc_1 _) (by decide) (lo' := [(5, .int (xL5 + (1 : Int32))), (4, .int (xL4 + (-1 : Int32))), (0, .ref pL0), (1, .int xL1), (2, .int xL2)]) rfl ?_
          refine r_goto (dc_X10_only 38 rfl) (tgt := 31) (by decide) ?_
          refine r_pick [2, 3, 4, 1, 0] (lo' := [(0, .ref pL0), (1, .int xL1), (2, .int xL2), (4, .int (xL4 + (-1 : Int32))), (5, .int (xL5 + (1 : Int32)))]) rfl ?_
          exact ih _ _ h
        · rw [if_pos c0] at h
          refine r_iload (dc_X10_only 34 rfl) rfl ?_
          cases h
          exact r_ireturn (dc_X10_only 35 rfl) rfl
      · rw [if_pos c0] at h
        refine r_goto (dc_X10_only 31 rfl) (tgt := 67) (by decide) ?_
        refine r_iinc (dc_X10_only 37 rfl) rfl (kinc_1 _) (by decide) (lo' := [(5, .int (xL5 + (1 : Int32))), (0, .ref pL0), (1, .int xL1), (2, .int xL2), (4, .int xL4)]) rfl ?_
        refine r_goto (dc_X10_only 38 rfl) (tgt := 31) (by decide) ?_
        refine r_pick [1, 2, 3, 4, 0] (lo' := [(0, .ref pL0), (1, .int xL1), (2, .int xL2), (4, .int xL4), (5, .int (xL5 + (1 : Int32)))]) rfl ?_
        exact ih _ _ h
theorem t_X10_only {G : Gx} {d : Nat} (hl : G.1.stackTraces = false) (hd : 3 ≤ d) {σ : Sto} {a0 : Nat} {xa1 : Int32} {xa2 : Int32} {xa3 : Int32} {r : (Int32 × Sto)} (h : F_X10_only σ a0 xa1 xa2 xa3 = some r) : Mi G d m_X10_only 10 a0 [.int xa1, .int xa2, .int xa3] σ (.inl (some (.int r.1))) r.2 := by
  rw [F_X10_only] at h
  obtain ⟨hg, h⟩ := chk_some h
  refine ⟨J.toMt (lo := [(0, .ref a0), (1, .int xa1), (2, .int xa2), (3, .int xa3)]) pn_RX10 rfl hl (Nat.le_of_ble_eq_true rfl) rfl ?_, hg⟩
  refine r_aload_n (dc_X10_only 0 rfl) rfl rfl ?_
  refine r_iconst (dc_X10_only 1 rfl) kiconst_0 ?_
  obtain ⟨s1, e0, h⟩ := Option.bind_eq_some_iff.mp h
  refine r_put (dc_X10_only 2 rfl) pl_RX10_1 rfl e0 ?_
  refine r_aload_n (dc_X10_only 3 rfl) rfl rfl ?_
  refine r_iconst (dc_X10_only 4 rfl) kiconst_0 ?_
  obtain ⟨s2, e0, h⟩ := Option.bind_eq_some_iff.mp h
  refine r_put (dc_X10_only 5 rfl) pl_RX10_59 rfl e0 ?_
  refine r_aload_n (dc_X10_only 6 rfl) rfl rfl ?_
  refine r_iload_n (dc_X10_only 7 rfl) rfl rfl ?_
  refine r_iload_n (dc_X10_only 8 rfl) rfl rfl ?_
  obtain ⟨x3, e0, h⟩ := Option.bind_eq_some_iff.mp h
  refine r_callV (dc_X10_only 9 rfl) mv_X10_areTwo ml_RX10_211 (As := [.int xa1, .int xa2]) (t_X10_areTwo (d := d - 1) hl (by omega) e0) (by omega) rfl (Nat.le_of_ble_eq_true rfl) ?_
  refine r_if_ne (dc_X10_only 10 rfl) (tgt := 25) (by decide) (fun c0 => ?_) (fun c0 => ?_)
  · rw [if_neg c0] at h
    refine r_iload_n (dc_X10_only 15 rfl) rfl rfl ?_
    refine r_istore (dc_X10_only 16 rfl) (by decide) (lo' := [(4, .int xa3), (0, .ref a0), (1, .int xa1), (2, .int xa2), (3, .int xa3)]) rfl ?_
    refine r_iconst (dc_X10_only 17 rfl) kiconst_0 ?_
    refine r_istore (dc_X10_only 18 rfl) (by decide) (lo' := [(5, .int (0 : Int32)), (4, .int xa3), (0, .ref a0), (1, .int xa1), (2, .int xa2), (3, .int xa3)]) rfl ?_
    refine r_pick [2, 3, 4, 1, 0] (lo' := [(0, .ref a0), (1, .int xa1), (2, .int xa2), (4, .int xa3), (5, .int (0 : Int32))]) rfl ?_
    refine l_X10_only_L31 hl hd (hk73 := ?_) fu _ _ h
    · intro h
      refine r_iconst (dc_X10_only 39 rfl) kiconst_m1 ?_
      cases h
      exact r_ireturn (dc_X10_only 40 rfl) rfl
  · rw [if_pos c0] at h
    refine r_aload_n (dc_X10_only 11 rfl) rfl rfl ?_
    refine r_iconst (dc_X10_only 12 rfl) kiconst_1 ?_
    obtain ⟨x8, s7, e0, h⟩ := wb_some h
    refine r_callV (dc_X10_only 13 rfl) mv_X10_fails ml_RX10_101 (As := [.int (1 : Int32)]) (t_X10_fails (d := d - 1) hl (by omega) e0) (by omega) rfl (Nat.le_of_ble_eq_true rfl) ?_
    cases h
    exact r_ireturn (dc_X10_only 14 rfl) rfl
theorem l_X10_isInHand_L2 {G : Gx} {d : Nat} (hl : G.1.stackTraces = false) (hd : 1 ≤ d) {sL : Sto} {pL0 : Nat} {xL1 : Int32} {r : Int32} {k33 : Option Int32}
    (hk33 : k33  = some r → J G d m_X10_isInHand 33 [] [] sL (.inl (some (.int r))) sL)
  : ∀ (f : Nat) (xL2 : Int32), F_X10_isInHand_L2 sL pL0 xL1 f xL2 k33 = some r → J G d m_X10_isInHand 2 [(0, .ref pL0), (1, .int xL1), (2, .int xL2)] [] sL (.inl (some (.int r))) sL := by
  intro f
  induction f with
  | zero => intro xL2 h; rw [F_X10_isInHand_L2] at h; cases h
  | succ f ih =>
    intro xL2 h
    rw [F_X10_isInHand_L2] at h
    refine r_iload_n (dc_X10_isInHand 2 rfl) rfl rfl ?_
    refine r_aload_n (dc_X10_isInHand 3 rfl) rfl rfl ?_
    refine r_ldc (dc_X10_isInHand 4 rfl) ck_RX10_210 ?_
    obtain ⟨x1, e0, h⟩ := Option.bind_eq_some_iff.mp h
    refine r_callV (dc_X10_isInHand 5 rfl) mv_X10_of ml_RX10_62 (As := [.int (49279 : Int32)]) (t_X10_of (d := d - 1) hl (by omega) e0) (by omega) rfl (Nat.le_of_ble_eq_true rfl) ?_
    refine r_icmp_ge (dc_X10_isInHand 6 rfl) (tgt := 33) (by decide) (fun c0 => ?_) (fun c0 => ?_)
    · rw [if_pos c0] at h
      refine r_pick [] (lo' := []) rfl ?_
      exact hk33  h
    · rw [if_neg c0] at h
      refine r_aload_n (dc_X10_isInHand 7 rfl) rfl rfl ?_
      refine r_ldcw (dc_X10_isInHand 8 rfl) ck_RX10_306 ?_
      refine r_iload_n (dc_X10_isInHand 9 rfl) rfl rfl ?_
      refine r_iadd (dc_X10_isInHand 10 rfl) ?_
      obtain ⟨x2, e0, h⟩ := Option.bind_eq_some_iff.mp h
      refine r_callV (dc_X10_isInHand 11 rfl) mv_X10_of ml_RX10_62 (As := [.int ((49280 : Int32) + xL2)]) (t_X10_of (d := d - 1) hl (by omega) e0) (by omega) rfl (Nat.le_of_ble_eq_true rfl) ?_
      refine r_iload_n (dc_X10_isInHand 12 rfl) rfl rfl ?_
      refine r_icmp_ne (dc_X10_isInHand 13 rfl) (tgt := 27) (by decide) (fun c0 => ?_) (fun c0 => ?_)
      · rw [if_neg c0] at h
        refine r_iinc (dc_X10_isInHand 16 rfl) rfl (kinc_1 _) (by decide) (lo' := [(2, .int (xL2 + (1 : Int32))), (0, .ref pL0), (1, .int xL1)]) rfl ?_
        refine r_goto (dc_X10_isInHand 17 rfl) (tgt := 2) (by decide) ?_
        refine r_pick [1, 2, 0] (lo' := [(0, .ref pL0), (1, .int xL1), (2, .int (xL2 + (1 : Int32)))]) rfl ?_
        exact ih _ h
      · rw [if_pos c0] at h
        refine r_iconst (dc_X10_isInHand 14 rfl) kiconst_1 ?_
        cases h
        exact r_zreturn (dc_X10_isInHand 15 rfl) rfl (Or.inr rfl)
theorem t_X10_isInHand {G : Gx} {d : Nat} (hl : G.1.stackTraces = false) (hd : 1 ≤ d) {σ : Sto} {a0 : Nat} {xa1 : Int32} {r : Int32} (h : F_X10_isInHand σ a0 xa1 = some r) : Mi G d m_X10_isInHand 10 a0 [.int xa1] σ (.inl (some (.int r))) σ := by
  rw [F_X10_isInHand] at h
  obtain ⟨hg, h⟩ := chk_some h
  refine ⟨J.toMt (lo := [(0, .ref a0), (1, .int xa1)]) pn_RX10 rfl hl (Nat.le_of_ble_eq_true rfl) rfl ?_, hg⟩
  refine r_iconst (dc_X10_isInHand 0 rfl) kiconst_0 ?_
  refine r_istore_n (dc_X10_isInHand 1 rfl) rfl (by decide) (lo' := [(2, .int (0 : Int32)), (0, .ref a0), (1, .int xa1)]) rfl ?_
  refine r_pick [1, 2, 0] (lo' := [(0, .ref a0), (1, .int xa1), (2, .int (0 : Int32))]) rfl ?_
  refine l_X10_isInHand_L2 hl hd (hk33 := ?_) fu _ h
  · intro h
    refine r_iconst (dc_X10_isInHand 18 rfl) kiconst_0 ?_
    cases h
    exact r_zreturn (dc_X10_isInHand 19 rfl) rfl (Or.inl rfl)
theorem l_X10_would_L81 {G : Gx} {d : Nat} (hl : G.1.stackTraces = false) (hd : 4 ≤ d) {sL : Sto} {pL0 : Nat} {xL1 : Int32} {xL2 : Int32} {r : (Int32 × Sto)} {k142 : Int32 → Option (Int32 × Sto)}
    (hk142 : ∀ (xL5 : Int32), k142 xL5 = some r → J G d m_X10_would 142 [(5, .int xL5)] [] sL (.inl (some (.int r.1))) r.2)
  : ∀ (f : Nat) (xL5 : Int32) (xL6 : Int32), F_X10_would_L81 sL pL0 xL1 xL2 f xL5 xL6 k142 = some r → J G d m_X10_would 81 [(0, .ref pL0), (1, .int xL1), (2, .int xL2), (5, .int xL5), (6, .int xL6)] [] sL (.inl (some (.int r.1))) r.2 := by
  intro f
  induction f with
  | zero => intro xL5 xL6 h; rw [F_X10_would_L81] at h; cases h
  | succ f ih =>
    intro xL5 xL6 h
    rw [F_X10_would_L81] at h
    refine r_iload (dc_X10_would 47 rfl) rfl ?_
    refine r_aload_n (dc_X10_would 48 rfl) rfl rfl ?_
    obtain ⟨p7, e0, h⟩ := Option.bind_eq_some_iff.mp h
    refine r_getR (dc_X10_would 49 rfl) fl_RX10_14 e0 ?_
    refine r_iconst (dc_X10_would 50 rfl) kiconst_2 ?_
    obtain ⟨x8, e0, h⟩ := Option.bind_eq_some_iff.mp h
    refine r_iald (dc_X10_would 51 rfl) e0 ?_
    refine r_icmp_ge (dc_X10_would 52 rfl) (tgt := 142) (by decide) (fun c0 => ?_) (fun c0 => ?_)
    · rw [if_pos c0] at h
      refine r_pick [3] (lo' := [(5, .int xL5)]) rfl ?_
      exact hk142 _ h
    · rw [if_neg c0] at h
      refine r_iload (dc_X10_would 53 rfl) rfl ?_
      refine r_aload_n (dc_X10_would 54 rfl) rfl rfl ?_
      refine r_iload_n (dc_X10_would 55 rfl) rfl rfl ?_
      refine r_iload (dc_X10_would 56 rfl) rfl ?_
      refine r_iconst (dc_X10_would 57 rfl) kiconst_1 ?_
      obtain ⟨x9, e0, h⟩ := Option.bind_eq_some_iff.mp h
      refine r_callV (dc_X10_would 58 rfl) mv_X10_doesHave ml_RX10_226 (As := [.int xL1, .int xL6, .int (1 : Int32)]) (t_X10_doesHave (d := d - 1) hl (by omega) e0) (by omega) rfl (Nat.le_of_ble_eq_true rfl) ?_
      refine jn_elim h (Q := fun (j : Int32 → Option (Int32 × Sto)) => ∀ (x11 : Int32), j x11 = some r → J G d m_X10_would 130 [(0, .ref pL0), (1, .int xL1), (2, .int xL2), (6, .int xL6)] [.int x11, .int xL5] sL (.inl (some (.int r.1))) r.2) ?_ (fun j10 hj10 h => ?_)
      · intro x11 h
        obtain ⟨x12, e0, h⟩ := Option.bind_eq_some_iff.mp h
        refine r_callS (dc_X10_would 73 rfl) ms_X10_flag ml_RX10_74 (As := [.int x11]) (t_X10_flag (d := d - 1) hl (by omega) e0) (by omega) rfl (Nat.le_of_ble_eq_true rfl) ?_
        refine r_iadd (dc_X10_would 74 rfl) ?_
        refine r_istore (dc_X10_would 75 rfl) (by decide) (lo' := [(5, .int (xL5 + x12)), (0, .ref pL0), (1, .int xL1), (2, .int xL2), (6, .int xL6)]) rfl ?_
        refine r_iinc (dc_X10_would 76 rfl) rfl (kinc_1 _) (by decide) (lo' := [(6, .int (xL6 + (1 : Int32))), (5, .int (xL5 + x12)), (0, .ref pL0), (1, .int xL1), (2, .int xL2)]) rfl ?_
        refine r_goto (dc_X10_would 77 rfl) (tgt := 81) (by decide) ?_
        refine r_pick [2, 3, 4, 1, 0] (lo' := [(0, .ref pL0), (1, .int xL1), (2, .int xL2), (5, .int (xL5 + x12)), (6, .int (xL6 + (1 : Int32)))]) rfl ?_
        exact ih _ _ h
      refine r_if_eq (dc_X10_would 59 rfl) (tgt := 129) (by decide) (fun c0 => ?_) (fun c0 => ?_)
      · rw [if_pos c0] at h
        refine r_iconst (dc_X10_would 72 rfl) kiconst_0 ?_
        refine r_pick [0, 1, 2, 4] (lo' := [(0, .ref pL0), (1, .int xL1), (2, .int xL2), (6, .int xL6)]) rfl ?_
        exact hj10 _ h
      · rw [if_neg c0] at h
        refine r_aload_n (dc_X10_would 60 rfl) rfl rfl ?_
        refine r_iload_n (dc_X10_would 61 rfl) rfl rfl ?_
        refine r_iload (dc_X10_would 62 rfl) rfl ?_
        refine r_iconst (dc_X10_would 63 rfl) kiconst_0 ?_
        obtain ⟨x13, e0, h⟩ := Option.bind_eq_some_iff.mp h
        refine r_callV (dc_X10_would 64 rfl) mv_X10_doesHave ml_RX10_226 (As := [.int xL2, .int xL6, .int (0 : Int32)]) (t_X10_doesHave (d := d - 1) hl (by omega) e0) (by omega) rfl (Nat.le_of_ble_eq_true rfl) ?_
        refine r_if_eq (dc_X10_would 65 rfl) (tgt := 129) (by decide) (fun c0 => ?_) (fun c0 => ?_)
        · rw [if_pos c0] at h
          refine r_iconst (dc_X10_would 72 rfl) kiconst_0 ?_
          refine r_pick [0, 1, 2, 4] (lo' := [(0, .ref pL0), (1, .int xL1), (2, .int xL2), (6, .int xL6)]) rfl ?_
          exact hj10 _ h
        · rw [if_neg c0] at h
          refine r_aload_n (dc_X10_would 66 rfl) rfl rfl ?_
          refine r_iload (dc_X10_would 67 rfl) rfl ?_
          obtain ⟨x14, e0, h⟩ := Option.bind_eq_some_iff.mp h
          refine r_callV (dc_X10_would 68 rfl) mv_X10_isInHand ml_RX10_303 (As := [.int xL6]) (t_X10_isInHand (d := d - 1) hl (by omega) e0) (by omega) rfl (Nat.le_of_ble_eq_true rfl) ?_
          refine r_if_ne (dc_X10_would 69 rfl) (tgt := 129) (by decide) (fun c0 => ?_) (fun c0 => ?_)
          · rw [if_neg c0] at h
            refine r_iconst (dc_X10_would 72 rfl) kiconst_0 ?_
            refine r_pick [0, 1, 2, 4] (lo' := [(0, .ref pL0), (1, .int xL1), (2, .int xL2), (6, .int xL6)]) rfl ?_
            exact hj10 _ h
          · rw [if_pos c0] at h
            refine r_iconst (dc_X10_would 70 rfl) kiconst_1 ?_
            refine r_goto (dc_X10_would 71 rfl) (tgt := 130) (by decide) ?_
            refine r_pick [0, 1, 2, 4] (lo' := [(0, .ref pL0), (1, .int xL1), (2, .int xL2), (6, .int xL6)]) rfl ?_
            exact hj10 _ h
theorem t_X10_would {G : Gx} {d : Nat} (hl : G.1.stackTraces = false) (hd : 4 ≤ d) {σ : Sto} {a0 : Nat} {xa1 : Int32} {xa2 : Int32} {xa3 : Int32} {r : (Int32 × Sto)} (h : F_X10_would σ a0 xa1 xa2 xa3 = some r) : Mi G d m_X10_would 10 a0 [.int xa1, .int xa2, .int xa3] σ (.inl (some (.int r.1))) r.2 := by
  rw [F_X10_would] at h
  obtain ⟨hg, h⟩ := chk_some h
  refine ⟨J.toMt (lo := [(0, .ref a0), (1, .int xa1), (2, .int xa2), (3, .int xa3)]) pn_RX10 rfl hl (Nat.le_of_ble_eq_true rfl) rfl ?_, hg⟩
  refine r_aload_n (dc_X10_would 0 rfl) rfl rfl ?_
  refine r_iconst (dc_X10_would 1 rfl) kiconst_0 ?_
  obtain ⟨s1, e0, h⟩ := Option.bind_eq_some_iff.mp h
  refine r_put (dc_X10_would 2 rfl) pl_RX10_1 rfl e0 ?_
  refine r_aload_n (dc_X10_would 3 rfl) rfl rfl ?_
  refine r_iconst (dc_X10_would 4 rfl) kiconst_0 ?_
  obtain ⟨s2, e0, h⟩ := Option.bind_eq_some_iff.mp h
  refine r_put (dc_X10_would 5 rfl) pl_RX10_59 rfl e0 ?_
  refine r_aload_n (dc_X10_would 6 rfl) rfl rfl ?_
  refine r_iload_n (dc_X10_would 7 rfl) rfl rfl ?_
  refine r_iload_n (dc_X10_would 8 rfl) rfl rfl ?_
  obtain ⟨x3, e0, h⟩ := Option.bind_eq_some_iff.mp h
  refine r_callV (dc_X10_would 9 rfl) mv_X10_areTwo ml_RX10_211 (As := [.int xa1, .int xa2]) (t_X10_areTwo (d := d - 1) hl (by omega) e0) (by omega) rfl (Nat.le_of_ble_eq_true rfl) ?_
  refine r_if_ne (dc_X10_would 10 rfl) (tgt := 25) (by decide) (fun c0 => ?_) (fun c0 => ?_)
  · rw [if_neg c0] at h
    refine r_iload_n (dc_X10_would 15 rfl) rfl rfl ?_
    refine r_i2l (dc_X10_would 16 rfl) ?_
    refine r_lconst (dc_X10_would 17 rfl) klconst_0 ?_
    refine r_ldc2 (dc_X10_would 18 rfl) ck_RX10_97 ?_
    obtain ⟨x4, e0, h⟩ := Option.bind_eq_some_iff.mp h
    refine r_callS (dc_X10_would 19 rfl) ms_X10_isIn ml_RX10_89 (As := [.long xa3.toInt64, .long (0 : Int64), .long (2 : Int64)]) (t_X10_isIn (d := d - 1) hl (by omega) e0) (by omega) rfl (Nat.le_of_ble_eq_true rfl) ?_
    refine r_if_ne (dc_X10_would 20 rfl) (tgt := 43) (by decide) (fun c0 => ?_) (fun c0 => ?_)
    · rw [if_neg c0] at h
      refine r_aload_n (dc_X10_would 25 rfl) rfl rfl ?_
      refine r_ldc (dc_X10_would 26 rfl) ck_RX10_203 ?_
      refine r_iload_n (dc_X10_would 27 rfl) rfl rfl ?_
      refine r_iload_n (dc_X10_would 28 rfl) rfl rfl ?_
      obtain ⟨x6, s5, e0, h⟩ := wb_some h
      refine r_callV (dc_X10_would 29 rfl) mv_X10_lays ml_RX10_200 (As := [.int (49278 : Int32), .int xa1, .int xa2]) (t_X10_lays (d := d - 1) hl (by omega) e0) (by omega) rfl (Nat.le_of_ble_eq_true rfl) ?_
      refine r_istore (dc_X10_would 30 rfl) (by decide) (lo' := [(4, .int x6), (0, .ref a0), (1, .int xa1), (2, .int xa2), (3, .int xa3)]) rfl ?_
      refine r_iload_n (dc_X10_would 31 rfl) rfl rfl ?_
      refine r_iconst (dc_X10_would 32 rfl) kiconst_2 ?_
      refine r_icmp_ge (dc_X10_would 33 rfl) (tgt := 75) (by decide) (fun c0 => ?_) (fun c0 => ?_)
      · rw [if_pos c0] at h
        refine r_iconst (dc_X10_would 43 rfl) kiconst_0 ?_
        refine r_istore (dc_X10_would 44 rfl) (by decide) (lo' := [(5, .int (0 : Int32)), (4, .int x6), (0, .ref a0), (1, .int xa1), (2, .int xa2), (3, .int xa3)]) rfl ?_
        refine r_iconst (dc_X10_would 45 rfl) kiconst_0 ?_
        refine r_istore (dc_X10_would 46 rfl) (by decide) (lo' := [(6, .int (0 : Int32)), (5, .int (0 : Int32)), (4, .int x6), (0, .ref a0), (1, .int xa1), (2, .int xa2), (3, .int xa3)]) rfl ?_
        refine r_pick [3, 4, 5, 1, 0] (lo' := [(0, .ref a0), (1, .int xa1), (2, .int xa2), (5, .int (0 : Int32)), (6, .int (0 : Int32))]) rfl ?_
        refine l_X10_would_L81 hl hd (hk142 := ?_) fu _ _ h
        · intro x15 h
          refine r_iload (dc_X10_would 78 rfl) rfl ?_
          cases h
          exact r_ireturn (dc_X10_would 79 rfl) rfl
      · rw [if_neg c0] at h
        refine r_iload_n (dc_X10_would 34 rfl) rfl rfl ?_
        refine r_if_ne (dc_X10_would 35 rfl) (tgt := 67) (by decide) (fun c0 => ?_) (fun c0 => ?_)
        · rw [if_neg c0] at h
          refine r_aload_n (dc_X10_would 38 rfl) rfl rfl ?_
          refine r_ldc (dc_X10_would 39 rfl) ck_RX10_203 ?_
          refine r_iload_n (dc_X10_would 40 rfl) rfl rfl ?_
          obtain ⟨x16, e0, h⟩ := Option.bind_eq_some_iff.mp h
          refine r_callV (dc_X10_would 41 rfl) mv_X10_hadOf ml_RX10_230 (As := [.int (49278 : Int32), .int xa2]) (t_X10_hadOf (d := d - 1) hl (by omega) e0) (by omega) rfl (Nat.le_of_ble_eq_true rfl) ?_
          cases h
          exact r_ireturn (dc_X10_would 42 rfl) rfl
        · rw [if_pos c0] at h
          refine r_iload (dc_X10_would 36 rfl) rfl ?_
          refine r_goto (dc_X10_would 37 rfl) (tgt := 74) (by decide) ?_
          cases h
          exact r_ireturn (dc_X10_would 42 rfl) rfl
    · rw [if_pos c0] at h
      refine r_aload_n (dc_X10_would 21 rfl) rfl rfl ?_
      refine r_iconst (dc_X10_would 22 rfl) kiconst_2 ?_
      obtain ⟨x18, s17, e0, h⟩ := wb_some h
      refine r_callV (dc_X10_would 23 rfl) mv_X10_fails ml_RX10_101 (As := [.int (2 : Int32)]) (t_X10_fails (d := d - 1) hl (by omega) e0) (by omega) rfl (Nat.le_of_ble_eq_true rfl) ?_
      cases h
      exact r_ireturn (dc_X10_would 24 rfl) rfl
  · rw [if_pos c0] at h
    refine r_aload_n (dc_X10_would 11 rfl) rfl rfl ?_
    refine r_iconst (dc_X10_would 12 rfl) kiconst_1 ?_
    obtain ⟨x20, s19, e0, h⟩ := wb_some h
    refine r_callV (dc_X10_would 13 rfl) mv_X10_fails ml_RX10_101 (As := [.int (1 : Int32)]) (t_X10_fails (d := d - 1) hl (by omega) e0) (by omega) rfl (Nat.le_of_ble_eq_true rfl) ?_
    cases h
    exact r_ireturn (dc_X10_would 14 rfl) rfl
theorem t_X10_isAhead {G : Gx} {d : Nat} (hl : G.1.stackTraces = false) (hd : 2 ≤ d) {σ : Sto} {a0 : Nat} {xa1 : Int32} {xa2 : Int32} {r : Int32} (h : F_X10_isAhead σ a0 xa1 xa2 = some r) : Mi G d m_X10_isAhead 10 a0 [.int xa1, .int xa2] σ (.inl (some (.int r))) σ := by
  rw [F_X10_isAhead] at h
  obtain ⟨hg, h⟩ := chk_some h
  refine ⟨J.toMt (lo := [(0, .ref a0), (1, .int xa1), (2, .int xa2)]) pn_RX10 rfl hl (Nat.le_of_ble_eq_true rfl) rfl ?_, hg⟩
  refine r_aload_n (dc_X10_isAhead 0 rfl) rfl rfl ?_
  refine r_iload_n (dc_X10_isAhead 1 rfl) rfl rfl ?_
  obtain ⟨x1, e0, h⟩ := Option.bind_eq_some_iff.mp h
  refine r_callS (dc_X10_isAhead 2 rfl) ms_X10_eventOf ml_RX10_108 (As := [.int xa2]) (t_X10_eventOf (d := d - 1) hl (by omega) e0) (by omega) rfl (Nat.le_of_ble_eq_true rfl) ?_
  refine r_bipush (dc_X10_isAhead 3 rfl) kbipush_6 ?_
  refine r_iadd (dc_X10_isAhead 4 rfl) ?_
  refine r_iload_n (dc_X10_isAhead 5 rfl) rfl rfl ?_
  obtain ⟨x2, e0, h⟩ := Option.bind_eq_some_iff.mp h
  refine r_callV (dc_X10_isAhead 6 rfl) mv_X10_isOf ml_RX10_70 (As := [.int (x1 + (6 : Int32)), .int xa1]) (t_X10_isOf (d := d - 1) hl (by omega) e0) (by omega) rfl (Nat.le_of_ble_eq_true rfl) ?_
  split at h
  · rename_i c0
    cases h
    exact r_zreturn (dc_X10_isAhead 7 rfl) rfl c0
  · cases h
theorem t_X10_isBefore {G : Gx} {d : Nat} (hl : G.1.stackTraces = false) (hd : 0 ≤ d) {σ : Sto} {a0 : Nat} {xa1 : Int32} {xa2 : Int32} {r : Int32} (h : F_X10_isBefore σ a0 xa1 xa2 = some r) : Mi G d m_X10_isBefore 10 a0 [.int xa1, .int xa2] σ (.inl (some (.int r))) σ := by
  rw [F_X10_isBefore] at h
  obtain ⟨hg, h⟩ := chk_some h
  refine ⟨J.toMt (lo := [(0, .ref a0), (1, .int xa1), (2, .int xa2)]) pn_RX10 rfl hl (Nat.le_of_ble_eq_true rfl) rfl ?_, hg⟩
  refine r_aload_n (dc_X10_isBefore 0 rfl) rfl rfl ?_
  obtain ⟨p1, e0, h⟩ := Option.bind_eq_some_iff.mp h
  refine r_getR (dc_X10_isBefore 1 rfl) fl_RX10_34 e0 ?_
  refine r_iload_n (dc_X10_isBefore 2 rfl) rfl rfl ?_
  obtain ⟨x2, e0, h⟩ := Option.bind_eq_some_iff.mp h
  refine r_iald (dc_X10_isBefore 3 rfl) e0 ?_
  refine r_iconst (dc_X10_isBefore 4 rfl) kiconst_m1 ?_
  refine jn_elim h (Q := fun (j : Int32 → Option Int32) => ∀ (x4 : Int32), j x4 = some r → J G d m_X10_isBefore 25 [(0, .ref a0), (1, .int xa1), (2, .int xa2)] [.int x4] σ (.inl (some (.int r))) σ) ?_ (fun j3 hj3 h => ?_)
  · intro x4 h
    refine r_istore_n (dc_X10_isBefore 15 rfl) rfl (by decide) (lo' := [(3, .int x4), (0, .ref a0), (1, .int xa1), (2, .int xa2)]) rfl ?_
    refine r_aload_n (dc_X10_isBefore 16 rfl) rfl rfl ?_
    obtain ⟨p5, e0, h⟩ := Option.bind_eq_some_iff.mp h
    refine r_getR (dc_X10_isBefore 17 rfl) fl_RX10_34 e0 ?_
    refine r_iload_n (dc_X10_isBefore 18 rfl) rfl rfl ?_
    obtain ⟨x6, e0, h⟩ := Option.bind_eq_some_iff.mp h
    refine r_iald (dc_X10_isBefore 19 rfl) e0 ?_
    refine r_iconst (dc_X10_isBefore 20 rfl) kiconst_m1 ?_
    refine jn_elim h (Q := fun (j : Int32 → Option Int32) => ∀ (x8 : Int32), j x8 = some r → J G d m_X10_isBefore 51 [(1, .int xa1), (2, .int xa2), (3, .int x4)] [.int x8] σ (.inl (some (.int r))) σ) ?_ (fun j7 hj7 h => ?_)
    · intro x8 h
      refine r_istore (dc_X10_isBefore 31 rfl) (by decide) (lo' := [(4, .int x8), (1, .int xa1), (2, .int xa2), (3, .int x4)]) rfl ?_
      refine r_iload_n (dc_X10_isBefore 32 rfl) rfl rfl ?_
      refine r_iload (dc_X10_isBefore 33 rfl) rfl ?_
      refine r_icmp_eq (dc_X10_isBefore 34 rfl) (tgt := 73) (by decide) (fun c0 => ?_) (fun c0 => ?_)
      · rw [if_pos c0] at h
        refine r_iload_n (dc_X10_isBefore 42 rfl) rfl rfl ?_
        refine r_iload_n (dc_X10_isBefore 43 rfl) rfl rfl ?_
        refine r_icmp_ge (dc_X10_isBefore 44 rfl) (tgt := 82) (by decide) (fun c0 => ?_) (fun c0 => ?_)
        · rw [if_pos c0] at h
          refine r_iconst (dc_X10_isBefore 47 rfl) kiconst_0 ?_
          cases h
          exact r_zreturn (dc_X10_isBefore 48 rfl) rfl (Or.inl rfl)
        · rw [if_neg c0] at h
          refine r_iconst (dc_X10_isBefore 45 rfl) kiconst_1 ?_
          refine r_goto (dc_X10_isBefore 46 rfl) (tgt := 83) (by decide) ?_
          cases h
          exact r_zreturn (dc_X10_isBefore 48 rfl) rfl (Or.inr rfl)
      · rw [if_neg c0] at h
        refine r_iload_n (dc_X10_isBefore 35 rfl) rfl rfl ?_
        refine r_iload (dc_X10_isBefore 36 rfl) rfl ?_
        refine r_icmp_ge (dc_X10_isBefore 37 rfl) (tgt := 69) (by decide) (fun c0 => ?_) (fun c0 => ?_)
        · rw [if_pos c0] at h
          refine r_iconst (dc_X10_isBefore 40 rfl) kiconst_0 ?_
          refine r_goto (dc_X10_isBefore 41 rfl) (tgt := 83) (by decide) ?_
          cases h
          exact r_zreturn (dc_X10_isBefore 48 rfl) rfl (Or.inl rfl)
        · rw [if_neg c0] at h
          refine r_iconst (dc_X10_isBefore 38 rfl) kiconst_1 ?_
          refine r_goto (dc_X10_isBefore 39 rfl) (tgt := 83) (by decide) ?_
          cases h
          exact r_zreturn (dc_X10_isBefore 48 rfl) rfl (Or.inr rfl)
    refine r_icmp_ne (dc_X10_isBefore 21 rfl) (tgt := 40) (by decide) (fun c0 => ?_) (fun c0 => ?_)
    · rw [if_neg c0] at h
      refine r_aload_n (dc_X10_isBefore 24 rfl) rfl rfl ?_
      obtain ⟨p9, e0, h⟩ := Option.bind_eq_some_iff.mp h
      refine r_getR (dc_X10_isBefore 25 rfl) fl_RX10_37 e0 ?_
      refine r_aload_n (dc_X10_isBefore 26 rfl) rfl rfl ?_
      obtain ⟨p10, e0, h⟩ := Option.bind_eq_some_iff.mp h
      refine r_getR (dc_X10_isBefore 27 rfl) fl_RX10_34 e0 ?_
      refine r_iload_n (dc_X10_isBefore 28 rfl) rfl rfl ?_
      obtain ⟨x11, e0, h⟩ := Option.bind_eq_some_iff.mp h
      refine r_iald (dc_X10_isBefore 29 rfl) e0 ?_
      obtain ⟨x12, e0, h⟩ := Option.bind_eq_some_iff.mp h
      refine r_iald (dc_X10_isBefore 30 rfl) e0 ?_
      refine r_pick [2, 3, 0] (lo' := [(1, .int xa1), (2, .int xa2), (3, .int x4)]) rfl ?_
      exact hj7 _ h
    · rw [if_pos c0] at h
      refine r_iconst (dc_X10_isBefore 22 rfl) kiconst_0 ?_
      refine r_goto (dc_X10_isBefore 23 rfl) (tgt := 51) (by decide) ?_
      refine r_pick [2, 3, 0] (lo' := [(1, .int xa1), (2, .int xa2), (3, .int x4)]) rfl ?_
      exact hj7 _ h
  refine r_icmp_ne (dc_X10_isBefore 5 rfl) (tgt := 14) (by decide) (fun c0 => ?_) (fun c0 => ?_)
  · rw [if_neg c0] at h
    refine r_aload_n (dc_X10_isBefore 8 rfl) rfl rfl ?_
    obtain ⟨p13, e0, h⟩ := Option.bind_eq_some_iff.mp h
    refine r_getR (dc_X10_isBefore 9 rfl) fl_RX10_37 e0 ?_
    refine r_aload_n (dc_X10_isBefore 10 rfl) rfl rfl ?_
    obtain ⟨p14, e0, h⟩ := Option.bind_eq_some_iff.mp h
    refine r_getR (dc_X10_isBefore 11 rfl) fl_RX10_34 e0 ?_
    refine r_iload_n (dc_X10_isBefore 12 rfl) rfl rfl ?_
    obtain ⟨x15, e0, h⟩ := Option.bind_eq_some_iff.mp h
    refine r_iald (dc_X10_isBefore 13 rfl) e0 ?_
    obtain ⟨x16, e0, h⟩ := Option.bind_eq_some_iff.mp h
    refine r_iald (dc_X10_isBefore 14 rfl) e0 ?_
    exact hj3 _ h
  · rw [if_pos c0] at h
    refine r_iconst (dc_X10_isBefore 6 rfl) kiconst_0 ?_
    refine r_goto (dc_X10_isBefore 7 rfl) (tgt := 25) (by decide) ?_
    exact hj3 _ h
theorem l_X10_laysRanks_L34 {G : Gx} {d : Nat} (hl : G.1.stackTraces = false) (hd : 3 ≤ d) {pL0 : Nat} {xL1 : Int32} {xL2 : Int32} {r : Sto} {k103 : Sto → Option Sto}
    (hk103 : ∀ (sL : Sto), k103 sL = some r → J G d m_X10_laysRanks 103 [(0, .ref pL0), (1, .int xL1), (2, .int xL2)] [] sL (.inl none) r)
  : ∀ (f : Nat) (xL3 : Int32) (sL : Sto), F_X10_laysRanks_L34 pL0 xL1 xL2 f xL3 sL k103 = some r → J G d m_X10_laysRanks 34 [(0, .ref pL0), (1, .int xL1), (2, .int xL2), (3, .int xL3)] [] sL (.inl none) r := by
  intro f
  induction f with
  | zero => intro xL3 sL h; rw [F_X10_laysRanks_L34] at h; cases h
  | succ f ih =>
    intro xL3 sL h
    rw [F_X10_laysRanks_L34] at h
    refine r_iload_n (dc_X10_laysRanks 22 rfl) rfl rfl ?_
    refine r_iload_n (dc_X10_laysRanks 23 rfl) rfl rfl ?_
    refine r_icmp_ge (dc_X10_laysRanks 24 rfl) (tgt := 103) (by decide) (fun c0 => ?_) (fun c0 => ?_)
    · rw [if_pos c0] at h
      refine r_pick [0, 1, 2] (lo' := [(0, .ref pL0), (1, .int xL1), (2, .int xL2)]) rfl ?_
      exact hk103 _ h
    · rw [if_neg c0] at h
      refine r_aload_n (dc_X10_laysRanks 25 rfl) rfl rfl ?_
      obtain ⟨p7, e0, h⟩ := Option.bind_eq_some_iff.mp h
      refine r_getR (dc_X10_laysRanks 26 rfl) fl_RX10_31 e0 ?_
      refine r_iload_n (dc_X10_laysRanks 27 rfl) rfl rfl ?_
      obtain ⟨x8, e0, h⟩ := Option.bind_eq_some_iff.mp h
      refine r_iald (dc_X10_laysRanks 28 rfl) e0 ?_
      refine r_iload_n (dc_X10_laysRanks 29 rfl) rfl rfl ?_
      refine r_iconst (dc_X10_laysRanks 30 rfl) kiconst_1 ?_
      refine r_isub (dc_X10_laysRanks 31 rfl) ?_
      refine r_icmp_ne (dc_X10_laysRanks 32 rfl) (tgt := 97) (by decide) (fun c0 => ?_) (fun c0 => ?_)
      · rw [if_neg c0] at h
        refine r_iinc (dc_X10_laysRanks 61 rfl) rfl (kinc_1 _) (by decide) (lo' := [(3, .int (xL3 + (1 : Int32))), (0, .ref pL0), (1, .int xL1), (2, .int xL2)]) rfl ?_
        refine r_goto (dc_X10_laysRanks 62 rfl) (tgt := 34) (by decide) ?_
        refine r_pick [1, 2, 3, 0] (lo' := [(0, .ref pL0), (1, .int xL1), (2, .int xL2), (3, .int (xL3 + (1 : Int32)))]) rfl ?_
        exact ih _ _ h
      · rw [if_pos c0] at h
        refine r_aload_n (dc_X10_laysRanks 33 rfl) rfl rfl ?_
        refine r_iload_n (dc_X10_laysRanks 34 rfl) rfl rfl ?_
        refine r_iload_n (dc_X10_laysRanks 35 rfl) rfl rfl ?_
        obtain ⟨x9, e0, h⟩ := Option.bind_eq_some_iff.mp h
        refine r_callV (dc_X10_laysRanks 36 rfl) mv_X10_isAhead ml_RX10_307 (As := [.int xL3, .int xL2]) (t_X10_isAhead (d := d - 1) hl (by omega) e0) (by omega) rfl (Nat.le_of_ble_eq_true rfl) ?_
        refine r_if_eq (dc_X10_laysRanks 37 rfl) (tgt := 97) (by decide) (fun c0 => ?_) (fun c0 => ?_)
        · rw [if_pos c0] at h
          refine r_iinc (dc_X10_laysRanks 61 rfl) rfl (kinc_1 _) (by decide) (lo' := [(3, .int (xL3 + (1 : Int32))), (0, .ref pL0), (1, .int xL1), (2, .int xL2)]) rfl ?_
          refine r_goto (dc_X10_laysRanks 62 rfl) (tgt := 34) (by decide) ?_
          refine r_pick [1, 2, 3, 0] (lo' := [(0, .ref pL0), (1, .int xL1), (2, .int xL2), (3, .int (xL3 + (1 : Int32)))]) rfl ?_
          exact ih _ _ h
        · rw [if_neg c0] at h
          refine r_aload_n (dc_X10_laysRanks 38 rfl) rfl rfl ?_
          obtain ⟨p10, e0, h⟩ := Option.bind_eq_some_iff.mp h
          refine r_getR (dc_X10_laysRanks 39 rfl) fl_RX10_34 e0 ?_
          refine r_iload_n (dc_X10_laysRanks 40 rfl) rfl rfl ?_
          obtain ⟨x11, e0, h⟩ := Option.bind_eq_some_iff.mp h
          refine r_iald (dc_X10_laysRanks 41 rfl) e0 ?_
          refine r_iconst (dc_X10_laysRanks 42 rfl) kiconst_m1 ?_
          refine r_icmp_eq (dc_X10_laysRanks 43 rfl) (tgt := 90) (by decide) (fun c0 => ?_) (fun c0 => ?_)
          · rw [if_pos c0] at h
            refine r_aload_n (dc_X10_laysRanks 56 rfl) rfl rfl ?_
            obtain ⟨p12, e0, h⟩ := Option.bind_eq_some_iff.mp h
            refine r_getR (dc_X10_laysRanks 57 rfl) fl_RX10_34 e0 ?_
            refine r_iload_n (dc_X10_laysRanks 58 rfl) rfl rfl ?_
            refine r_iload_n (dc_X10_laysRanks 59 rfl) rfl rfl ?_
            obtain ⟨s13, e0, h⟩ := Option.bind_eq_some_iff.mp h
            refine r_iast (dc_X10_laysRanks 60 rfl) e0 ?_
            refine r_iinc (dc_X10_laysRanks 61 rfl) rfl (kinc_1 _) (by decide) (lo' := [(3, .int (xL3 + (1 : Int32))), (0, .ref pL0), (1, .int xL1), (2, .int xL2)]) rfl ?_
            refine r_goto (dc_X10_laysRanks 62 rfl) (tgt := 34) (by decide) ?_
            refine r_pick [1, 2, 3, 0] (lo' := [(0, .ref pL0), (1, .int xL1), (2, .int xL2), (3, .int (xL3 + (1 : Int32)))]) rfl ?_
            exact ih _ _ h
          · rw [if_neg c0] at h
            refine r_aload_n (dc_X10_laysRanks 44 rfl) rfl rfl ?_
            obtain ⟨p14, e0, h⟩ := Option.bind_eq_some_iff.mp h
            refine r_getR (dc_X10_laysRanks 45 rfl) fl_RX10_37 e0 ?_
            refine r_iload_n (dc_X10_laysRanks 46 rfl) rfl rfl ?_
            obtain ⟨x15, e0, h⟩ := Option.bind_eq_some_iff.mp h
            refine r_iald (dc_X10_laysRanks 47 rfl) e0 ?_
            refine r_aload_n (dc_X10_laysRanks 48 rfl) rfl rfl ?_
            obtain ⟨p16, e0, h⟩ := Option.bind_eq_some_iff.mp h
            refine r_getR (dc_X10_laysRanks 49 rfl) fl_RX10_37 e0 ?_
            refine r_aload_n (dc_X10_laysRanks 50 rfl) rfl rfl ?_
            obtain ⟨p17, e0, h⟩ := Option.bind_eq_some_iff.mp h
            refine r_getR (dc_X10_laysRanks 51 rfl) fl_RX10_34 e0 ?_
            refine r_iload_n (dc_X10_laysRanks 52 rfl) rfl rfl ?_
            obtain ⟨x18, e0, h⟩ := Option.bind_eq_some_iff.mp h
            refine r_iald (dc_X10_laysRanks 53 rfl) e0 ?_
            obtain ⟨x19, e0, h⟩ := Option.bind_eq_some_iff.mp h
            refine r_iald (dc_X10_laysRanks 54 rfl) e0 ?_
            refine r_icmp_ge (dc_X10_laysRanks 55 rfl) (tgt := 97) (by decide) (fun c0 => ?_) (fun c0 => ?_)
            · rw [if_pos c0] at h
              refine r_iinc (dc_X10_laysRanks 61 rfl) rfl (kinc_1 _) (by decide) (lo' := [(3, .int (xL3 + (1 : Int32))), (0, .ref pL0), (1, .int xL1), (2, .int xL2)]) rfl ?_
              refine r_goto (dc_X10_laysRanks 62 rfl) (tgt := 34) (by decide) ?_
              refine r_pick [1, 2, 3, 0] (lo' := [(0, .ref pL0), (1, .int xL1), (2, .int xL2), (3, .int (xL3 + (1 : Int32)))]) rfl ?_
              exact ih _ _ h
            · rw [if_neg c0] at h
              refine r_aload_n (dc_X10_laysRanks 56 rfl) rfl rfl ?_
              obtain ⟨p20, e0, h⟩ := Option.bind_eq_some_iff.mp h
              refine r_getR (dc_X10_laysRanks 57 rfl) fl_RX10_34 e0 ?_
              refine r_iload_n (dc_X10_laysRanks 58 rfl) rfl rfl ?_
              refine r_iload_n (dc_X10_laysRanks 59 rfl) rfl rfl ?_
              obtain ⟨s21, e0, h⟩ := Option.bind_eq_some_iff.mp h
              refine r_iast (dc_X10_laysRanks 60 rfl) e0 ?_
              refine r_iinc (dc_X10_laysRanks 61 rfl) rfl (kinc_1 _) (by decide) (lo' := [(3, .int (xL3 + (1 : Int32))), (0, .ref pL0), (1, .int xL1), (2, .int xL2)]) rfl ?_
              refine r_goto (dc_X10_laysRanks 62 rfl) (tgt := 34) (by decide) ?_
              refine r_pick [1, 2, 3, 0] (lo' := [(0, .ref pL0), (1, .int xL1), (2, .int xL2), (3, .int (xL3 + (1 : Int32)))]) rfl ?_
              exact ih _ _ h
