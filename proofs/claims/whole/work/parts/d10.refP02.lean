theorem t_X10_tables {G : Gx} {d : Nat} (hl : G.1.stackTraces = false) (hd : 3 ≤ d) {σ : Sto} {a0 : Nat} {xa1 : Int32} {xa2 : Int32} {xa3 : Int32} {r : Sto} (h : F_X10_tables σ a0 xa1 xa2 xa3 = some r) : Mi G d m_X10_tables 10 a0 [.int xa1, .int xa2, .int xa3] σ (.inl none) r := by
  rw [F_X10_tables] at h
  obtain ⟨hg, h⟩ := chk_some h
  refine ⟨J.toMt (lo := [(0, .ref a0), (1, .int xa1), (2, .int xa2), (3, .int xa3)]) pn_RX10 rfl hl (Nat.le_of_ble_eq_true rfl) rfl ?_, hg⟩
  refine r_aload_n (dc_X10_tables 0 rfl) rfl rfl ?_
  refine r_iload_n (dc_X10_tables 1 rfl) rfl rfl ?_
  refine r_iconst (dc_X10_tables 2 rfl) kiconst_0 ?_
  refine r_iadd (dc_X10_tables 3 rfl) ?_
  obtain ⟨x1, e0, h⟩ := Option.bind_eq_some_iff.mp h
  refine r_callV (dc_X10_tables 4 rfl) mv_X10_of ml_RX10_62 (As := [.int (xa1 + (0 : Int32))]) (t_X10_of (d := d - 1) hl (by omega) e0) (by omega) rfl (Nat.le_of_ble_eq_true rfl) ?_
  refine r_istore (dc_X10_tables 5 rfl) (by decide) (lo' := [(4, .int x1), (0, .ref a0), (1, .int xa1), (2, .int xa2), (3, .int xa3)]) rfl ?_
  refine r_iload (dc_X10_tables 6 rfl) rfl ?_
  refine r_iconst (dc_X10_tables 7 rfl) kiconst_2 ?_
  refine jn_elim h (Q := fun (j : Sto → Option Sto) => ∀ (s3 : Sto), j s3 = some r → J G d m_X10_tables 23 [(0, .ref a0), (1, .int xa1), (2, .int xa2), (3, .int xa3), (4, .int x1)] [] s3 (.inl none) r) ?_ (fun j2 hj2 h => ?_)
  · intro s3 h
    refine r_iload (dc_X10_tables 15 rfl) rfl ?_
    refine r_iconst (dc_X10_tables 16 rfl) kiconst_1 ?_
    refine jn_elim h (Q := fun (j : Sto → Option Sto) => ∀ (s5 : Sto), j s5 = some r → J G d m_X10_tables 37 [(0, .ref a0), (1, .int xa1), (2, .int xa2), (3, .int xa3), (4, .int x1)] [] s5 (.inl none) r) ?_ (fun j4 hj4 h => ?_)
    · intro s5 h
      refine r_iconst (dc_X10_tables 24 rfl) kiconst_0 ?_
      refine r_istore (dc_X10_tables 25 rfl) (by decide) (lo' := [(5, .int (0 : Int32)), (0, .ref a0), (1, .int xa1), (2, .int xa2), (3, .int xa3), (4, .int x1)]) rfl ?_
      refine r_pick [1, 2, 3, 4, 5, 0] (lo' := [(0, .ref a0), (1, .int xa1), (2, .int xa2), (3, .int xa3), (4, .int x1), (5, .int (0 : Int32))]) rfl ?_
      refine l_X10_tables_L40 hl hd (hk71 := ?_) fu _ _ h
      · intro s8 h
        refine r_iconst (dc_X10_tables 41 rfl) kiconst_0 ?_
        refine r_istore (dc_X10_tables 42 rfl) (by decide) (lo' := [(5, .int (0 : Int32)), (0, .ref a0), (1, .int xa1), (2, .int xa2), (3, .int xa3), (4, .int x1)]) rfl ?_
        refine r_pick [1, 2, 3, 4, 5, 0] (lo' := [(0, .ref a0), (1, .int xa1), (2, .int xa2), (3, .int xa3), (4, .int x1), (5, .int (0 : Int32))]) rfl ?_
        refine l_X10_tables_L74 hl hd (hk152 := ?_) fu _ _ h
        · intro s19 h
          cases h
          exact r_vreturn (dc_X10_tables 85 rfl) rfl
    refine r_icmp_ne (dc_X10_tables 17 rfl) (tgt := 37) (by decide) (fun c0 => ?_) (fun c0 => ?_)
    · rw [if_neg c0] at h
      exact hj4 _ h
    · rw [if_pos c0] at h
      refine r_aload_n (dc_X10_tables 18 rfl) rfl rfl ?_
      refine r_iload_n (dc_X10_tables 19 rfl) rfl rfl ?_
      refine r_iload_n (dc_X10_tables 20 rfl) rfl rfl ?_
      refine r_iload_n (dc_X10_tables 21 rfl) rfl rfl ?_
      refine r_iload_n (dc_X10_tables 22 rfl) rfl rfl ?_
      obtain ⟨s20, e0, h⟩ := Option.bind_eq_some_iff.mp h
      refine r_callV (dc_X10_tables 23 rfl) mv_X10_raises ml_RX10_169 (As := [.int xa3, .int xa2, .int xa1, .int xa2]) (t_X10_raises (d := d - 1) hl (by omega) e0) (by omega) rfl (Nat.le_of_ble_eq_true rfl) ?_
      exact hj4 _ h
  refine r_icmp_ge (dc_X10_tables 8 rfl) (tgt := 23) (by decide) (fun c0 => ?_) (fun c0 => ?_)
  · rw [if_pos c0] at h
    refine r_pick [1, 2, 3, 4, 0] (lo' := [(0, .ref a0), (1, .int xa1), (2, .int xa2), (3, .int xa3), (4, .int x1)]) rfl ?_
    exact hj2 _ h
  · rw [if_neg c0] at h
    refine r_aload_n (dc_X10_tables 9 rfl) rfl rfl ?_
    refine r_iload_n (dc_X10_tables 10 rfl) rfl rfl ?_
    refine r_iload_n (dc_X10_tables 11 rfl) rfl rfl ?_
    refine r_iload_n (dc_X10_tables 12 rfl) rfl rfl ?_
    refine r_iload_n (dc_X10_tables 13 rfl) rfl rfl ?_
    obtain ⟨s21, e0, h⟩ := Option.bind_eq_some_iff.mp h
    refine r_callV (dc_X10_tables 14 rfl) mv_X10_raises ml_RX10_169 (As := [.int xa3, .int xa3, .int xa1, .int xa2]) (t_X10_raises (d := d - 1) hl (by omega) e0) (by omega) rfl (Nat.le_of_ble_eq_true rfl) ?_
    refine r_pick [1, 2, 3, 4, 0] (lo' := [(0, .ref a0), (1, .int xa1), (2, .int xa2), (3, .int xa3), (4, .int x1)]) rfl ?_
    exact hj2 _ h
theorem l_X10_isKnownToAll_L2 {G : Gx} {d : Nat} (hl : G.1.stackTraces = false) (hd : 3 ≤ d) {sL : Sto} {pL0 : Nat} {xL1 : Int32} {xL2 : Int32} {r : Int32} {k29 : Option Int32}
    (hk29 : k29  = some r → J G d m_X10_isKnownToAll 29 [] [] sL (.inl (some (.int r))) sL)
  : ∀ (f : Nat) (xL3 : Int32), F_X10_isKnownToAll_L2 sL pL0 xL1 xL2 f xL3 k29 = some r → J G d m_X10_isKnownToAll 2 [(0, .ref pL0), (1, .int xL1), (2, .int xL2), (3, .int xL3)] [] sL (.inl (some (.int r))) sL := by
  intro f
  induction f with
  | zero => intro xL3 h; rw [F_X10_isKnownToAll_L2] at h; cases h
  | succ f ih =>
    intro xL3 h
    rw [F_X10_isKnownToAll_L2] at h
    refine r_iload_n (dc_X10_isKnownToAll 2 rfl) rfl rfl ?_
    refine r_aload_n (dc_X10_isKnownToAll 3 rfl) rfl rfl ?_
    refine r_iconst (dc_X10_isKnownToAll 4 rfl) kiconst_0 ?_
    obtain ⟨x1, e0, h⟩ := Option.bind_eq_some_iff.mp h
    refine r_callV (dc_X10_isKnownToAll 5 rfl) mv_X10_of ml_RX10_62 (As := [.int (0 : Int32)]) (t_X10_of (d := d - 1) hl (by omega) e0) (by omega) rfl (Nat.le_of_ble_eq_true rfl) ?_
    refine r_icmp_ge (dc_X10_isKnownToAll 6 rfl) (tgt := 29) (by decide) (fun c0 => ?_) (fun c0 => ?_)
    · rw [if_pos c0] at h
      refine r_pick [] (lo' := []) rfl ?_
      exact hk29  h
    · rw [if_neg c0] at h
      refine r_aload_n (dc_X10_isKnownToAll 7 rfl) rfl rfl ?_
      refine r_iload_n (dc_X10_isKnownToAll 8 rfl) rfl rfl ?_
      refine r_iload_n (dc_X10_isKnownToAll 9 rfl) rfl rfl ?_
      refine r_iload_n (dc_X10_isKnownToAll 10 rfl) rfl rfl ?_
      obtain ⟨x2, e0, h⟩ := Option.bind_eq_some_iff.mp h
      refine r_callV (dc_X10_isKnownToAll 11 rfl) mv_X10_isKnown ml_RX10_162 (As := [.int xL1, .int xL3, .int xL2]) (t_X10_isKnown (d := d - 1) hl (by omega) e0) (by omega) rfl (Nat.le_of_ble_eq_true rfl) ?_
      refine r_if_ne (dc_X10_isKnownToAll 12 rfl) (tgt := 23) (by decide) (fun c0 => ?_) (fun c0 => ?_)
      · rw [if_neg c0] at h
        refine r_iinc (dc_X10_isKnownToAll 15 rfl) rfl (kinc_1 _) (by decide) (lo' := [(3, .int (xL3 + (1 : Int32))), (0, .ref pL0), (1, .int xL1), (2, .int xL2)]) rfl ?_
        refine r_goto (dc_X10_isKnownToAll 16 rfl) (tgt := 2) (by decide) ?_
        refine r_pick [1, 2, 3, 0] (lo' := [(0, .ref pL0), (1, .int xL1), (2, .int xL2), (3, .int (xL3 + (1 : Int32)))]) rfl ?_
        exact ih _ h
      · rw [if_pos c0] at h
        refine r_iconst (dc_X10_isKnownToAll 13 rfl) kiconst_0 ?_
        cases h
        exact r_zreturn (dc_X10_isKnownToAll 14 rfl) rfl (Or.inl rfl)
theorem t_X10_isKnownToAll {G : Gx} {d : Nat} (hl : G.1.stackTraces = false) (hd : 3 ≤ d) {σ : Sto} {a0 : Nat} {xa1 : Int32} {xa2 : Int32} {r : Int32} (h : F_X10_isKnownToAll σ a0 xa1 xa2 = some r) : Mi G d m_X10_isKnownToAll 10 a0 [.int xa1, .int xa2] σ (.inl (some (.int r))) σ := by
  rw [F_X10_isKnownToAll] at h
  obtain ⟨hg, h⟩ := chk_some h
  refine ⟨J.toMt (lo := [(0, .ref a0), (1, .int xa1), (2, .int xa2)]) pn_RX10 rfl hl (Nat.le_of_ble_eq_true rfl) rfl ?_, hg⟩
  refine r_iconst (dc_X10_isKnownToAll 0 rfl) kiconst_0 ?_
  refine r_istore_n (dc_X10_isKnownToAll 1 rfl) rfl (by decide) (lo' := [(3, .int (0 : Int32)), (0, .ref a0), (1, .int xa1), (2, .int xa2)]) rfl ?_
  refine r_pick [1, 2, 3, 0] (lo' := [(0, .ref a0), (1, .int xa1), (2, .int xa2), (3, .int (0 : Int32))]) rfl ?_
  refine l_X10_isKnownToAll_L2 hl hd (hk29 := ?_) fu _ h
  · intro h
    refine r_iconst (dc_X10_isKnownToAll 17 rfl) kiconst_1 ?_
    cases h
    exact r_zreturn (dc_X10_isKnownToAll 18 rfl) rfl (Or.inr rfl)
theorem l_X10_drops_L10 {G : Gx} {d : Nat} (hl : G.1.stackTraces = false) (hd : 4 ≤ d) {pL0 : Nat} {xL1 : Int32} {xL2 : Int32} {r : Sto} {k70 : Int32 → Sto → Option Sto}
    (hk70 : ∀ (xL3 : Int32) (sL : Sto), k70 xL3 sL = some r → J G d m_X10_drops 70 [(0, .ref pL0), (2, .int xL2), (3, .int xL3)] [] sL (.inl none) r)
  : ∀ (f : Nat) (xL3 : Int32) (xL4 : Int32) (sL : Sto), F_X10_drops_L10 pL0 xL1 xL2 f xL3 xL4 sL k70 = some r → J G d m_X10_drops 10 [(0, .ref pL0), (1, .int xL1), (2, .int xL2), (3, .int xL3), (4, .int xL4)] [] sL (.inl none) r := by
  intro f
  induction f with
  | zero => intro xL3 xL4 sL h; rw [F_X10_drops_L10] at h; cases h
  | succ f ih =>
    intro xL3 xL4 sL h
    rw [F_X10_drops_L10] at h
    refine r_iload (dc_X10_drops 7 rfl) rfl ?_
    refine r_aload_n (dc_X10_drops 8 rfl) rfl rfl ?_
    refine r_iload_n (dc_X10_drops 9 rfl) rfl rfl ?_
    refine r_bipush (dc_X10_drops 10 rfl) kbipush_33 ?_
    refine r_iadd (dc_X10_drops 11 rfl) ?_
    obtain ⟨x2, e0, h⟩ := Option.bind_eq_some_iff.mp h
    refine r_callV (dc_X10_drops 12 rfl) mv_X10_of ml_RX10_62 (As := [.int (xL2 + (33 : Int32))]) (t_X10_of (d := d - 1) hl (by omega) e0) (by omega) rfl (Nat.le_of_ble_eq_true rfl) ?_
    refine r_icmp_ge (dc_X10_drops 13 rfl) (tgt := 70) (by decide) (fun c0 => ?_) (fun c0 => ?_)
    · rw [if_pos c0] at h
      refine r_pick [0, 2, 3] (lo' := [(0, .ref pL0), (2, .int xL2), (3, .int xL3)]) rfl ?_
      exact hk70 _ _ h
    · rw [if_neg c0] at h
      refine r_aload_n (dc_X10_drops 14 rfl) rfl rfl ?_
      refine r_iload_n (dc_X10_drops 15 rfl) rfl rfl ?_
      refine r_bipush (dc_X10_drops 16 rfl) kbipush_34 ?_
      refine r_iadd (dc_X10_drops 17 rfl) ?_
      refine r_iload (dc_X10_drops 18 rfl) rfl ?_
      refine r_iadd (dc_X10_drops 19 rfl) ?_
      obtain ⟨x3, e0, h⟩ := Option.bind_eq_some_iff.mp h
      refine r_callV (dc_X10_drops 20 rfl) mv_X10_of ml_RX10_62 (As := [.int ((xL2 + (34 : Int32)) + xL4)]) (t_X10_of (d := d - 1) hl (by omega) e0) (by omega) rfl (Nat.le_of_ble_eq_true rfl) ?_
      refine r_istore (dc_X10_drops 21 rfl) (by decide) (lo' := [(5, .int x3), (0, .ref pL0), (1, .int xL1), (2, .int xL2), (3, .int xL3), (4, .int xL4)]) rfl ?_
      refine r_aload_n (dc_X10_drops 22 rfl) rfl rfl ?_
      refine r_iload_n (dc_X10_drops 23 rfl) rfl rfl ?_
      refine r_iload (dc_X10_drops 24 rfl) rfl ?_
      obtain ⟨x4, e0, h⟩ := Option.bind_eq_some_iff.mp h
      refine r_callV (dc_X10_drops 25 rfl) mv_X10_isKnownToAll ml_RX10_173 (As := [.int xL1, .int x3]) (t_X10_isKnownToAll (d := d - 1) hl (by omega) e0) (by omega) rfl (Nat.le_of_ble_eq_true rfl) ?_
      refine r_if_eq (dc_X10_drops 26 rfl) (tgt := 49) (by decide) (fun c0 => ?_) (fun c0 => ?_)
      · rw [if_pos c0] at h
        refine r_aload_n (dc_X10_drops 28 rfl) rfl rfl ?_
        refine r_iload_n (dc_X10_drops 29 rfl) rfl rfl ?_
        refine r_bipush (dc_X10_drops 30 rfl) kbipush_34 ?_
        refine r_iadd (dc_X10_drops 31 rfl) ?_
        refine r_iload_n (dc_X10_drops 32 rfl) rfl rfl ?_
        refine r_iadd (dc_X10_drops 33 rfl) ?_
        refine r_iload (dc_X10_drops 34 rfl) rfl ?_
        obtain ⟨s5, e0, h⟩ := Option.bind_eq_some_iff.mp h
        refine r_callV (dc_X10_drops 35 rfl) mv_X10_set ml_RX10_66 (As := [.int ((xL2 + (34 : Int32)) + xL3), .int x3]) (t_X10_set (d := d - 1) hl (by omega) e0) (by omega) rfl (Nat.le_of_ble_eq_true rfl) ?_
        refine r_iinc (dc_X10_drops 36 rfl) rfl (kinc_1 _) (by decide) (lo' := [(3, .int (xL3 + (1 : Int32))), (5, .int x3), (0, .ref pL0), (1, .int xL1), (2, .int xL2), (4, .int xL4)]) rfl ?_
        refine r_iinc (dc_X10_drops 37 rfl) rfl (kinc_1 _) (by decide) (lo' := [(4, .int (xL4 + (1 : Int32))), (3, .int (xL3 + (1 : Int32))), (5, .int x3), (0, .ref pL0), (1, .int xL1), (2, .int xL2)]) rfl ?_
        refine r_goto (dc_X10_drops 38 rfl) (tgt := 10) (by decide) ?_
        refine r_pick [3, 4, 5, 1, 0] (lo' := [(0, .ref pL0), (1, .int xL1), (2, .int xL2), (3, .int (xL3 + (1 : Int32))), (4, .int (xL4 + (1 : Int32)))]) rfl ?_
        exact ih _ _ _ h
      · rw [if_neg c0] at h
        refine r_goto (dc_X10_drops 27 rfl) (tgt := 64) (by decide) ?_
        refine r_iinc (dc_X10_drops 37 rfl) rfl (kinc_1 _) (by decide) (lo' := [(4, .int (xL4 + (1 : Int32))), (5, .int x3), (0, .ref pL0), (1, .int xL1), (2, .int xL2), (3, .int xL3)]) rfl ?_
        refine r_goto (dc_X10_drops 38 rfl) (tgt := 10) (by decide) ?_
        refine r_pick [2, 3, 4, 5, 0] (lo' := [(0, .ref pL0), (1, .int xL1), (2, .int xL2), (3, .int xL3), (4, .int (xL4 + (1 : Int32)))]) rfl ?_
        exact ih _ _ _ h
theorem t_X10_drops {G : Gx} {d : Nat} (hl : G.1.stackTraces = false) (hd : 4 ≤ d) {σ : Sto} {a0 : Nat} {xa1 : Int32} {r : Sto} (h : F_X10_drops σ a0 xa1 = some r) : Mi G d m_X10_drops 10 a0 [.int xa1] σ (.inl none) r := by
  rw [F_X10_drops] at h
  obtain ⟨hg, h⟩ := chk_some h
  refine ⟨J.toMt (lo := [(0, .ref a0), (1, .int xa1)]) pn_RX10 rfl hl (Nat.le_of_ble_eq_true rfl) rfl ?_, hg⟩
  refine r_iload_n (dc_X10_drops 0 rfl) rfl rfl ?_
  obtain ⟨x1, e0, h⟩ := Option.bind_eq_some_iff.mp h
  refine r_callS (dc_X10_drops 1 rfl) ms_X10_stateOf ml_RX10_111 (As := [.int xa1]) (t_X10_stateOf (d := d - 1) hl (by omega) e0) (by omega) rfl (Nat.le_of_ble_eq_true rfl) ?_
  refine r_istore_n (dc_X10_drops 2 rfl) rfl (by decide) (lo' := [(2, .int x1), (0, .ref a0), (1, .int xa1)]) rfl ?_
  refine r_iconst (dc_X10_drops 3 rfl) kiconst_0 ?_
  refine r_istore_n (dc_X10_drops 4 rfl) rfl (by decide) (lo' := [(3, .int (0 : Int32)), (2, .int x1), (0, .ref a0), (1, .int xa1)]) rfl ?_
  refine r_iconst (dc_X10_drops 5 rfl) kiconst_0 ?_
  refine r_istore (dc_X10_drops 6 rfl) (by decide) (lo' := [(4, .int (0 : Int32)), (3, .int (0 : Int32)), (2, .int x1), (0, .ref a0), (1, .int xa1)]) rfl ?_
  refine r_pick [3, 4, 2, 1, 0] (lo' := [(0, .ref a0), (1, .int xa1), (2, .int x1), (3, .int (0 : Int32)), (4, .int (0 : Int32))]) rfl ?_
  refine l_X10_drops_L10 hl hd (hk70 := ?_) fu _ _ _ h
  · intro x6 s7 h
    refine r_aload_n (dc_X10_drops 39 rfl) rfl rfl ?_
    refine r_iload_n (dc_X10_drops 40 rfl) rfl rfl ?_
    refine r_bipush (dc_X10_drops 41 rfl) kbipush_33 ?_
    refine r_iadd (dc_X10_drops 42 rfl) ?_
    refine r_iload_n (dc_X10_drops 43 rfl) rfl rfl ?_
    obtain ⟨s8, e0, h⟩ := Option.bind_eq_some_iff.mp h
    refine r_callV (dc_X10_drops 44 rfl) mv_X10_set ml_RX10_66 (As := [.int (x1 + (33 : Int32)), .int x6]) (t_X10_set (d := d - 1) hl (by omega) e0) (by omega) rfl (Nat.le_of_ble_eq_true rfl) ?_
    cases h
    exact r_vreturn (dc_X10_drops 45 rfl) rfl
theorem l_X10_comes_L6 {G : Gx} {d : Nat} (hl : G.1.stackTraces = false) (hd : 5 ≤ d) {pL0 : Nat} {xL1 : Int32} {xL2 : Int32} {xL3 : Int32} {r : (Int32 × Sto)} {k62 : Int32 → Sto → Option (Int32 × Sto)}
    (hk62 : ∀ (xL4 : Int32) (sL : Sto), k62 xL4 sL = some r → J G d m_X10_comes 62 [(0, .ref pL0), (1, .int xL1), (2, .int xL2), (3, .int xL3), (4, .int xL4)] [] sL (.inl (some (.int r.1))) r.2)
  : ∀ (f : Nat) (xL4 : Int32) (xL5 : Int32) (sL : Sto), F_X10_comes_L6 pL0 xL1 xL3 f xL4 xL5 sL k62 = some r → J G d m_X10_comes 6 [(0, .ref pL0), (1, .int xL1), (2, .int xL2), (3, .int xL3), (4, .int xL4), (5, .int xL5)] [] sL (.inl (some (.int r.1))) r.2 := by
  intro f
  induction f with
  | zero => intro xL4 xL5 sL h; rw [F_X10_comes_L6] at h; cases h
  | succ f ih =>
    intro xL4 xL5 sL h
    rw [F_X10_comes_L6] at h
    refine r_iload (dc_X10_comes 4 rfl) rfl ?_
    refine r_aload_n (dc_X10_comes 5 rfl) rfl rfl ?_
    refine r_iload_n (dc_X10_comes 6 rfl) rfl rfl ?_
    refine r_iconst (dc_X10_comes 7 rfl) kiconst_1 ?_
    refine r_iadd (dc_X10_comes 8 rfl) ?_
    obtain ⟨x1, e0, h⟩ := Option.bind_eq_some_iff.mp h
    refine r_callV (dc_X10_comes 9 rfl) mv_X10_of ml_RX10_62 (As := [.int (xL1 + (1 : Int32))]) (t_X10_of (d := d - 1) hl (by omega) e0) (by omega) rfl (Nat.le_of_ble_eq_true rfl) ?_
    refine r_icmp_ge (dc_X10_comes 10 rfl) (tgt := 62) (by decide) (fun c0 => ?_) (fun c0 => ?_)
    · rw [if_pos c0] at h
      refine r_pick [0, 1, 2, 3, 4] (lo' := [(0, .ref pL0), (1, .int xL1), (2, .int xL2), (3, .int xL3), (4, .int xL4)]) rfl ?_
      exact hk62 _ _ h
    · rw [if_neg c0] at h
      refine r_aload_n (dc_X10_comes 11 rfl) rfl rfl ?_
      refine r_iload_n (dc_X10_comes 12 rfl) rfl rfl ?_
      refine r_iconst (dc_X10_comes 13 rfl) kiconst_2 ?_
      refine r_iadd (dc_X10_comes 14 rfl) ?_
      refine r_iload (dc_X10_comes 15 rfl) rfl ?_
      refine r_iadd (dc_X10_comes 16 rfl) ?_
      obtain ⟨x2, e0, h⟩ := Option.bind_eq_some_iff.mp h
      refine r_callV (dc_X10_comes 17 rfl) mv_X10_of ml_RX10_62 (As := [.int ((xL1 + (2 : Int32)) + xL5)]) (t_X10_of (d := d - 1) hl (by omega) e0) (by omega) rfl (Nat.le_of_ble_eq_true rfl) ?_
      refine r_istore (dc_X10_comes 18 rfl) (by decide) (lo' := [(6, .int x2), (0, .ref pL0), (1, .int xL1), (2, .int xL2), (3, .int xL3), (4, .int xL4), (5, .int xL5)]) rfl ?_
      refine r_aload_n (dc_X10_comes 19 rfl) rfl rfl ?_
      refine r_iload_n (dc_X10_comes 20 rfl) rfl rfl ?_
      refine r_iload_n (dc_X10_comes 21 rfl) rfl rfl ?_
      refine r_iload (dc_X10_comes 22 rfl) rfl ?_
      obtain ⟨x3, e0, h⟩ := Option.bind_eq_some_iff.mp h
      refine r_callV (dc_X10_comes 23 rfl) mv_X10_isKnown ml_RX10_162 (As := [.int xL3, .int xL3, .int x2]) (t_X10_isKnown (d := d - 1) hl (by omega) e0) (by omega) rfl (Nat.le_of_ble_eq_true rfl) ?_
      refine r_if_eq (dc_X10_comes 24 rfl) (tgt := 44) (by decide) (fun c0 => ?_) (fun c0 => ?_)
      · rw [if_pos c0] at h
        refine r_aload_n (dc_X10_comes 26 rfl) rfl rfl ?_
        obtain ⟨p4, e0, h⟩ := Option.bind_eq_some_iff.mp h
        refine r_getR (dc_X10_comes 27 rfl) fl_RX10_25 e0 ?_
        refine r_iload (dc_X10_comes 28 rfl) rfl ?_
        refine r_iload (dc_X10_comes 29 rfl) rfl ?_
        obtain ⟨s5, e0, h⟩ := Option.bind_eq_some_iff.mp h
        refine r_iast (dc_X10_comes 30 rfl) e0 ?_
        refine r_iinc (dc_X10_comes 31 rfl) rfl (kinc_1 _) (by decide) (lo' := [(4, .int (xL4 + (1 : Int32))), (6, .int x2), (0, .ref pL0), (1, .int xL1), (2, .int xL2), (3, .int xL3), (5, .int xL5)]) rfl ?_
        refine r_iinc (dc_X10_comes 32 rfl) rfl (kinc_1 _) (by decide) (lo' := [(5, .int (xL5 + (1 : Int32))), (4, .int (xL4 + (1 : Int32))), (6, .int x2), (0, .ref pL0), (1, .int xL1), (2, .int xL2), (3, .int xL3)]) rfl ?_
        refine r_goto (dc_X10_comes 33 rfl) (tgt := 6) (by decide) ?_
        refine r_pick [3, 4, 5, 6, 1, 0] (lo' := [(0, .ref pL0), (1, .int xL1), (2, .int xL2), (3, .int xL3), (4, .int (xL4 + (1 : Int32))), (5, .int (xL5 + (1 : Int32)))]) rfl ?_
        exact ih _ _ _ h
      · rw [if_neg c0] at h
        refine r_goto (dc_X10_comes 25 rfl) (tgt := 56) (by decide) ?_
        refine r_iinc (dc_X10_comes 32 rfl) rfl (kinc_1 _) (by decide) (lo' := [(5, .int (xL5 + (1 : Int32))), (6, .int x2), (0, .ref pL0), (1, .int xL1), (2, .int xL2), (3, .int xL3), (4, .int xL4)]) rfl ?_
        refine r_goto (dc_X10_comes 33 rfl) (tgt := 6) (by decide) ?_
        refine r_pick [2, 3, 4, 5, 6, 0] (lo' := [(0, .ref pL0), (1, .int xL1), (2, .int xL2), (3, .int xL3), (4, .int xL4), (5, .int (xL5 + (1 : Int32)))]) rfl ?_
        exact ih _ _ _ h
theorem l_X10_comes_L74 {G : Gx} {d : Nat} (hl : G.1.stackTraces = false) (hd : 5 ≤ d) {pL0 : Nat} {xL1 : Int32} {xL2 : Int32} {xL3 : Int32} {xL4 : Int32} {xL5 : Int32} {r : (Int32 × Sto)} {k115 : Sto → Option (Int32 × Sto)}
    (hk115 : ∀ (sL : Sto), k115 sL = some r → J G d m_X10_comes 115 [(0, .ref pL0), (1, .int xL1), (2, .int xL2), (3, .int xL3), (4, .int xL4), (5, .int xL5)] [] sL (.inl (some (.int r.1))) r.2)
  : ∀ (f : Nat) (xL6 : Int32) (sL : Sto), F_X10_comes_L74 pL0 xL4 xL5 f xL6 sL k115 = some r → J G d m_X10_comes 74 [(0, .ref pL0), (1, .int xL1), (2, .int xL2), (3, .int xL3), (4, .int xL4), (5, .int xL5), (6, .int xL6)] [] sL (.inl (some (.int r.1))) r.2 := by
  intro f
  induction f with
  | zero => intro xL6 sL h; rw [F_X10_comes_L74] at h; cases h
  | succ f ih =>
    intro xL6 sL h
    rw [F_X10_comes_L74] at h
    refine r_iload (dc_X10_comes 41 rfl) rfl ?_
    refine r_iload (dc_X10_comes 42 rfl) rfl ?_
    refine r_icmp_ge (dc_X10_comes 43 rfl) (tgt := 115) (by decide) (fun c0 => ?_) (fun c0 => ?_)
    · rw [if_pos c0] at h
      refine r_pick [0, 1, 2, 3, 4, 5] (lo' := [(0, .ref pL0), (1, .int xL1), (2, .int xL2), (3, .int xL3), (4, .int xL4), (5, .int xL5)]) rfl ?_
      exact hk115 _ h
    · rw [if_neg c0] at h
      refine r_aload_n (dc_X10_comes 44 rfl) rfl rfl ?_
      refine r_aload_n (dc_X10_comes 45 rfl) rfl rfl ?_
      obtain ⟨p9, e0, h⟩ := Option.bind_eq_some_iff.mp h
      refine r_getR (dc_X10_comes 46 rfl) fl_RX10_25 e0 ?_
      refine r_iload (dc_X10_comes 47 rfl) rfl ?_
      obtain ⟨x10, e0, h⟩ := Option.bind_eq_some_iff.mp h
      refine r_iald (dc_X10_comes 48 rfl) e0 ?_
      obtain ⟨x11, e0, h⟩ := Option.bind_eq_some_iff.mp h
      refine r_callV (dc_X10_comes 49 rfl) mv_X10_isOut ml_RX10_176 (As := [.int x10]) (t_X10_isOut (d := d - 1) hl (by omega) e0) (by omega) rfl (Nat.le_of_ble_eq_true rfl) ?_
      refine r_if_ne (dc_X10_comes 50 rfl) (tgt := 109) (by decide) (fun c0 => ?_) (fun c0 => ?_)
      · rw [if_neg c0] at h
        refine r_iinc (dc_X10_comes 59 rfl) rfl (kinc_1 _) (by decide) (lo' := [(6, .int (xL6 + (1 : Int32))), (0, .ref pL0), (1, .int xL1), (2, .int xL2), (3, .int xL3), (4, .int xL4), (5, .int xL5)]) rfl ?_
        refine r_goto (dc_X10_comes 60 rfl) (tgt := 74) (by decide) ?_
        refine r_pick [1, 2, 3, 4, 5, 6, 0] (lo' := [(0, .ref pL0), (1, .int xL1), (2, .int xL2), (3, .int xL3), (4, .int xL4), (5, .int xL5), (6, .int (xL6 + (1 : Int32)))]) rfl ?_
        exact ih _ _ h
      · rw [if_pos c0] at h
        refine r_aload_n (dc_X10_comes 51 rfl) rfl rfl ?_
        refine r_iload (dc_X10_comes 52 rfl) rfl ?_
        refine r_aload_n (dc_X10_comes 53 rfl) rfl rfl ?_
        obtain ⟨p12, e0, h⟩ := Option.bind_eq_some_iff.mp h
        refine r_getR (dc_X10_comes 54 rfl) fl_RX10_25 e0 ?_
        refine r_iload (dc_X10_comes 55 rfl) rfl ?_
        obtain ⟨x13, e0, h⟩ := Option.bind_eq_some_iff.mp h
        refine r_iald (dc_X10_comes 56 rfl) e0 ?_
        refine r_iconst (dc_X10_comes 57 rfl) kiconst_1 ?_
        obtain ⟨s14, e0, h⟩ := Option.bind_eq_some_iff.mp h
        refine r_callV (dc_X10_comes 58 rfl) mv_X10_sets ml_RX10_127 (As := [.int xL5, .int x13, .int (1 : Int32)]) (t_X10_sets (d := d - 1) hl (by omega) e0) (by omega) rfl (Nat.le_of_ble_eq_true rfl) ?_
        refine r_iinc (dc_X10_comes 59 rfl) rfl (kinc_1 _) (by decide) (lo' := [(6, .int (xL6 + (1 : Int32))), (0, .ref pL0), (1, .int xL1), (2, .int xL2), (3, .int xL3), (4, .int xL4), (5, .int xL5)]) rfl ?_
        refine r_goto (dc_X10_comes 60 rfl) (tgt := 74) (by decide) ?_
        refine r_pick [1, 2, 3, 4, 5, 6, 0] (lo' := [(0, .ref pL0), (1, .int xL1), (2, .int xL2), (3, .int xL3), (4, .int xL4), (5, .int xL5), (6, .int (xL6 + (1 : Int32)))]) rfl ?_
        exact ih _ _ h
theorem l_X10_comes_L118 {G : Gx} {d : Nat} (hl : G.1.stackTraces = false) (hd : 5 ≤ d) {pL0 : Nat} {xL1 : Int32} {xL2 : Int32} {xL3 : Int32} {xL4 : Int32} {xL5 : Int32} {r : (Int32 × Sto)} {k163 : Sto → Option (Int32 × Sto)}
    (hk163 : ∀ (sL : Sto), k163 sL = some r → J G d m_X10_comes 163 [(0, .ref pL0), (1, .int xL1), (2, .int xL2), (3, .int xL3), (4, .int xL4)] [] sL (.inl (some (.int r.1))) r.2)
  : ∀ (f : Nat) (xL6 : Int32) (sL : Sto), F_X10_comes_L118 pL0 xL4 xL5 f xL6 sL k163 = some r → J G d m_X10_comes 118 [(0, .ref pL0), (1, .int xL1), (2, .int xL2), (3, .int xL3), (4, .int xL4), (5, .int xL5), (6, .int xL6)] [] sL (.inl (some (.int r.1))) r.2 := by
  intro f
  induction f with
  | zero => intro xL6 sL h; rw [F_X10_comes_L118] at h; cases h
  | succ f ih =>
    intro xL6 sL h
    rw [F_X10_comes_L118] at h
    refine r_iload (dc_X10_comes 63 rfl) rfl ?_
    refine r_iload (dc_X10_comes 64 rfl) rfl ?_
    refine r_icmp_ge (dc_X10_comes 65 rfl) (tgt := 163) (by decide) (fun c0 => ?_) (fun c0 => ?_)
    · rw [if_pos c0] at h
      refine r_pick [0, 1, 2, 3, 4] (lo' := [(0, .ref pL0), (1, .int xL1), (2, .int xL2), (3, .int xL3), (4, .int xL4)]) rfl ?_
      exact hk163 _ h
    · rw [if_neg c0] at h
      refine r_aload_n (dc_X10_comes 66 rfl) rfl rfl ?_
      refine r_aload_n (dc_X10_comes 67 rfl) rfl rfl ?_
      obtain ⟨p16, e0, h⟩ := Option.bind_eq_some_iff.mp h
      refine r_getR (dc_X10_comes 68 rfl) fl_RX10_25 e0 ?_
      refine r_iload (dc_X10_comes 69 rfl) rfl ?_
      obtain ⟨x17, e0, h⟩ := Option.bind_eq_some_iff.mp h
      refine r_iald (dc_X10_comes 70 rfl) e0 ?_
      obtain ⟨x18, e0, h⟩ := Option.bind_eq_some_iff.mp h
      refine r_callV (dc_X10_comes 71 rfl) mv_X10_isOut ml_RX10_176 (As := [.int x17]) (t_X10_isOut (d := d - 1) hl (by omega) e0) (by omega) rfl (Nat.le_of_ble_eq_true rfl) ?_
      refine r_if_eq (dc_X10_comes 72 rfl) (tgt := 157) (by decide) (fun c0 => ?_) (fun c0 => ?_)
      · rw [if_pos c0] at h
        refine r_iinc (dc_X10_comes 83 rfl) rfl (kinc_1 _) (by decide) (lo' := [(6, .int (xL6 + (1 : Int32))), (0, .ref pL0), (1, .int xL1), (2, .int xL2), (3, .int xL3), (4, .int xL4), (5, .int xL5)]) rfl ?_
        refine r_goto (dc_X10_comes 84 rfl) (tgt := 118) (by decide) ?_
        refine r_pick [1, 2, 3, 4, 5, 6, 0] (lo' := [(0, .ref pL0), (1, .int xL1), (2, .int xL2), (3, .int xL3), (4, .int xL4), (5, .int xL5), (6, .int (xL6 + (1 : Int32)))]) rfl ?_
        exact ih _ _ h
      · rw [if_neg c0] at h
        refine r_aload_n (dc_X10_comes 73 rfl) rfl rfl ?_
        refine r_iload (dc_X10_comes 74 rfl) rfl ?_
        refine r_aload_n (dc_X10_comes 75 rfl) rfl rfl ?_
        refine r_aload_n (dc_X10_comes 76 rfl) rfl rfl ?_
        obtain ⟨p19, e0, h⟩ := Option.bind_eq_some_iff.mp h
        refine r_getR (dc_X10_comes 77 rfl) fl_RX10_25 e0 ?_
        refine r_iload (dc_X10_comes 78 rfl) rfl ?_
        obtain ⟨x20, e0, h⟩ := Option.bind_eq_some_iff.mp h
        refine r_iald (dc_X10_comes 79 rfl) e0 ?_
        obtain ⟨x21, e0, h⟩ := Option.bind_eq_some_iff.mp h
        refine r_callV (dc_X10_comes 80 rfl) mv_X10_markOf ml_RX10_179 (As := [.int x20]) (t_X10_markOf (d := d - 1) hl (by omega) e0) (by omega) rfl (Nat.le_of_ble_eq_true rfl) ?_
        refine r_iconst (dc_X10_comes 81 rfl) kiconst_0 ?_
        obtain ⟨s22, e0, h⟩ := Option.bind_eq_some_iff.mp h
        refine r_callV (dc_X10_comes 82 rfl) mv_X10_sets ml_RX10_127 (As := [.int xL5, .int x21, .int (0 : Int32)]) (t_X10_sets (d := d - 1) hl (by omega) e0) (by omega) rfl (Nat.le_of_ble_eq_true rfl) ?_
        refine r_iinc (dc_X10_comes 83 rfl) rfl (kinc_1 _) (by decide) (lo' := [(6, .int (xL6 + (1 : Int32))), (0, .ref pL0), (1, .int xL1), (2, .int xL2), (3, .int xL3), (4, .int xL4), (5, .int xL5)]) rfl ?_
        refine r_goto (dc_X10_comes 84 rfl) (tgt := 118) (by decide) ?_
        refine r_pick [1, 2, 3, 4, 5, 6, 0] (lo' := [(0, .ref pL0), (1, .int xL1), (2, .int xL2), (3, .int xL3), (4, .int xL4), (5, .int xL5), (6, .int (xL6 + (1 : Int32)))]) rfl ?_
        exact ih _ _ h
theorem l_X10_comes_L166 {G : Gx} {d : Nat} (hl : G.1.stackTraces = false) (hd : 5 ≤ d) {pL0 : Nat} {xL1 : Int32} {xL2 : Int32} {xL3 : Int32} {xL4 : Int32} {r : (Int32 × Sto)} {k192 : Sto → Option (Int32 × Sto)}
    (hk192 : ∀ (sL : Sto), k192 sL = some r → J G d m_X10_comes 192 [(0, .ref pL0), (1, .int xL1), (2, .int xL2), (3, .int xL3), (4, .int xL4)] [] sL (.inl (some (.int r.1))) r.2)
  : ∀ (f : Nat) (xL6 : Int32) (sL : Sto), F_X10_comes_L166 pL0 xL2 xL3 xL4 f xL6 sL k192 = some r → J G d m_X10_comes 166 [(0, .ref pL0), (1, .int xL1), (2, .int xL2), (3, .int xL3), (4, .int xL4), (6, .int xL6)] [] sL (.inl (some (.int r.1))) r.2 := by
  intro f
  induction f with
  | zero => intro xL6 sL h; rw [F_X10_comes_L166] at h; cases h
  | succ f ih =>
    intro xL6 sL h
    rw [F_X10_comes_L166] at h
    refine r_iload (dc_X10_comes 87 rfl) rfl ?_
    refine r_iload (dc_X10_comes 88 rfl) rfl ?_
    refine r_icmp_ge (dc_X10_comes 89 rfl) (tgt := 192) (by decide) (fun c0 => ?_) (fun c0 => ?_)
    · rw [if_pos c0] at h
      refine r_pick [0, 1, 2, 3, 4] (lo' := [(0, .ref pL0), (1, .int xL1), (2, .int xL2), (3, .int xL3), (4, .int xL4)]) rfl ?_
      exact hk192 _ h
    · rw [if_neg c0] at h
      refine r_aload_n (dc_X10_comes 90 rfl) rfl rfl ?_
      refine r_iload_n (dc_X10_comes 91 rfl) rfl rfl ?_
      refine r_aload_n (dc_X10_comes 92 rfl) rfl rfl ?_
      obtain ⟨p24, e0, h⟩ := Option.bind_eq_some_iff.mp h
      refine r_getR (dc_X10_comes 93 rfl) fl_RX10_25 e0 ?_
      refine r_iload (dc_X10_comes 94 rfl) rfl ?_
      obtain ⟨x25, e0, h⟩ := Option.bind_eq_some_iff.mp h
      refine r_iald (dc_X10_comes 95 rfl) e0 ?_
      refine r_iload_n (dc_X10_comes 96 rfl) rfl rfl ?_
      obtain ⟨s26, e0, h⟩ := Option.bind_eq_some_iff.mp h
      refine r_callV (dc_X10_comes 97 rfl) mv_X10_comesToHave ml_RX10_137 (As := [.int xL3, .int x25, .int xL2]) (t_X10_comesToHave (d := d - 1) hl (by omega) e0) (by omega) rfl (Nat.le_of_ble_eq_true rfl) ?_
      refine r_iinc (dc_X10_comes 98 rfl) rfl (kinc_1 _) (by decide) (lo' := [(6, .int (xL6 + (1 : Int32))), (0, .ref pL0), (1, .int xL1), (2, .int xL2), (3, .int xL3), (4, .int xL4)]) rfl ?_
      refine r_goto (dc_X10_comes 99 rfl) (tgt := 166) (by decide) ?_
      refine r_pick [1, 2, 3, 4, 5, 0] (lo' := [(0, .ref pL0), (1, .int xL1), (2, .int xL2), (3, .int xL3), (4, .int xL4), (6, .int (xL6 + (1 : Int32)))]) rfl ?_
      exact ih _ _ h
theorem l_X10_comes_L202 {G : Gx} {d : Nat} (hl : G.1.stackTraces = false) (hd : 5 ≤ d) {pL0 : Nat} {xL3 : Int32} {xL4 : Int32} {r : (Int32 × Sto)} {k227 : Sto → Option (Int32 × Sto)}
    (hk227 : ∀ (sL : Sto), k227 sL = some r → J G d m_X10_comes 227 [(0, .ref pL0), (3, .int xL3), (4, .int xL4)] [] sL (.inl (some (.int r.1))) r.2)
  : ∀ (f : Nat) (xL6 : Int32) (sL : Sto), F_X10_comes_L202 pL0 xL3 xL4 f xL6 sL k227 = some r → J G d m_X10_comes 202 [(0, .ref pL0), (3, .int xL3), (4, .int xL4), (6, .int xL6)] [] sL (.inl (some (.int r.1))) r.2 := by
  intro f
  induction f with
  | zero => intro xL6 sL h; rw [F_X10_comes_L202] at h; cases h
  | succ f ih =>
    intro xL6 sL h
    rw [F_X10_comes_L202] at h
    refine r_iload (dc_X10_comes 107 rfl) rfl ?_
    refine r_iload (dc_X10_comes 108 rfl) rfl ?_
    refine r_icmp_ge (dc_X10_comes 109 rfl) (tgt := 227) (by decide) (fun c0 => ?_) (fun c0 => ?_)
    · rw [if_pos c0] at h
      refine r_pick [0, 1, 2] (lo' := [(0, .ref pL0), (3, .int xL3), (4, .int xL4)]) rfl ?_
      exact hk227 _ h
    · rw [if_neg c0] at h
      refine r_aload_n (dc_X10_comes 110 rfl) rfl rfl ?_
      refine r_iload_n (dc_X10_comes 111 rfl) rfl rfl ?_
      refine r_aload_n (dc_X10_comes 112 rfl) rfl rfl ?_
      obtain ⟨p29, e0, h⟩ := Option.bind_eq_some_iff.mp h
      refine r_getR (dc_X10_comes 113 rfl) fl_RX10_25 e0 ?_
      refine r_iload (dc_X10_comes 114 rfl) rfl ?_
      obtain ⟨x30, e0, h⟩ := Option.bind_eq_some_iff.mp h
      refine r_iald (dc_X10_comes 115 rfl) e0 ?_
      obtain ⟨s31, e0, h⟩ := Option.bind_eq_some_iff.mp h
      refine r_callV (dc_X10_comes 116 rfl) mv_X10_logs ml_RX10_134 (As := [.int xL3, .int x30]) (t_X10_logs (d := d - 1) hl (by omega) e0) (by omega) rfl (Nat.le_of_ble_eq_true rfl) ?_
      refine r_iinc (dc_X10_comes 117 rfl) rfl (kinc_1 _) (by decide) (lo' := [(6, .int (xL6 + (1 : Int32))), (0, .ref pL0), (3, .int xL3), (4, .int xL4)]) rfl ?_
      refine r_goto (dc_X10_comes 118 rfl) (tgt := 202) (by decide) ?_
      refine r_pick [1, 2, 3, 0] (lo' := [(0, .ref pL0), (3, .int xL3), (4, .int xL4), (6, .int (xL6 + (1 : Int32)))]) rfl ?_
      exact ih _ _ h
theorem t_X10_comes {G : Gx} {d : Nat} (hl : G.1.stackTraces = false) (hd : 5 ≤ d) {σ : Sto} {a0 : Nat} {xa1 : Int32} {xa2 : Int32} {xa3 : Int32} {r : (Int32 × Sto)} (h : F_X10_comes σ a0 xa1 xa2 xa3 = some r) : Mi G d m_X10_comes 10 a0 [.int xa1, .int xa2, .int xa3] σ (.inl (some (.int r.1))) r.2 := by
  rw [F_X10_comes] at h
  obtain ⟨hg, h⟩ := chk_some h
  refine ⟨J.toMt (lo := [(0, .ref a0), (1, .int xa1), (2, .int xa2), (3, .int xa3)]) pn_RX10 rfl hl (Nat.le_of_ble_eq_true rfl) rfl ?_, hg⟩
  refine r_iconst (dc_X10_comes 0 rfl) kiconst_0 ?_
  refine r_istore (dc_X10_comes 1 rfl) (by decide) (lo' := [(4, .int (0 : Int32)), (0, .ref a0), (1, .int xa1), (2, .int xa2), (3, .int xa3)]) rfl ?_
  refine r_iconst (dc_X10_comes 2 rfl) kiconst_0 ?_
  refine r_istore (dc_X10_comes 3 rfl) (by decide) (lo' := [(5, .int (0 : Int32)), (4, .int (0 : Int32)), (0, .ref a0), (1, .int xa1), (2, .int xa2), (3, .int xa3)]) rfl ?_
  refine r_pick [2, 3, 4, 5, 1, 0] (lo' := [(0, .ref a0), (1, .int xa1), (2, .int xa2), (3, .int xa3), (4, .int (0 : Int32)), (5, .int (0 : Int32))]) rfl ?_
  refine l_X10_comes_L6 hl hd (hk62 := ?_) fu _ _ _ h
  · intro x6 s7 h
    refine r_iload_n (dc_X10_comes 34 rfl) rfl rfl ?_
    obtain ⟨x8, e0, h⟩ := Option.bind_eq_some_iff.mp h
    refine r_callS (dc_X10_comes 35 rfl) ms_X10_stateOf ml_RX10_111 (As := [.int xa3]) (t_X10_stateOf (d := d - 1) hl (by omega) e0) (by omega) rfl (Nat.le_of_ble_eq_true rfl) ?_
    refine r_bipush (dc_X10_comes 36 rfl) kbipush_29 ?_
    refine r_iadd (dc_X10_comes 37 rfl) ?_
    refine r_istore (dc_X10_comes 38 rfl) (by decide) (lo' := [(5, .int (x8 + (29 : Int32))), (0, .ref a0), (1, .int xa1), (2, .int xa2), (3, .int xa3), (4, .int x6)]) rfl ?_
    refine r_iconst (dc_X10_comes 39 rfl) kiconst_0 ?_
    refine r_istore (dc_X10_comes 40 rfl) (by decide) (lo' := [(6, .int (0 : Int32)), (5, .int (x8 + (29 : Int32))), (0, .ref a0), (1, .int xa1), (2, .int xa2), (3, .int xa3), (4, .int x6)]) rfl ?_
    refine r_pick [2, 3, 4, 5, 6, 1, 0] (lo' := [(0, .ref a0), (1, .int xa1), (2, .int xa2), (3, .int xa3), (4, .int x6), (5, .int (x8 + (29 : Int32))), (6, .int (0 : Int32))]) rfl ?_
    refine l_X10_comes_L74 hl hd (hk115 := ?_) fu _ _ h
    · intro s15 h
      refine r_iconst (dc_X10_comes 61 rfl) kiconst_0 ?_
      refine r_istore (dc_X10_comes 62 rfl) (by decide) (lo' := [(6, .int (0 : Int32)), (0, .ref a0), (1, .int xa1), (2, .int xa2), (3, .int xa3), (4, .int x6), (5, .int (x8 + (29 : Int32)))]) rfl ?_
      refine r_pick [1, 2, 3, 4, 5, 6, 0] (lo' := [(0, .ref a0), (1, .int xa1), (2, .int xa2), (3, .int xa3), (4, .int x6), (5, .int (x8 + (29 : Int32))), (6, .int (0 : Int32))]) rfl ?_
      refine l_X10_comes_L118 hl hd (hk163 := ?_) fu _ _ h
      · intro s23 h
        refine r_iconst (dc_X10_comes 85 rfl) kiconst_0 ?_
        refine r_istore (dc_X10_comes 86 rfl) (by decide) (lo' := [(6, .int (0 : Int32)), (0, .ref a0), (1, .int xa1), (2, .int xa2), (3, .int xa3), (4, .int x6)]) rfl ?_
        refine r_pick [1, 2, 3, 4, 5, 0] (lo' := [(0, .ref a0), (1, .int xa1), (2, .int xa2), (3, .int xa3), (4, .int x6), (6, .int (0 : Int32))]) rfl ?_
        refine l_X10_comes_L166 hl hd (hk192 := ?_) fu _ _ h
        · intro s27 h
          refine r_aload_n (dc_X10_comes 100 rfl) rfl rfl ?_
          refine r_iload_n (dc_X10_comes 101 rfl) rfl rfl ?_
          refine r_iload_n (dc_X10_comes 102 rfl) rfl rfl ?_
          refine r_iload_n (dc_X10_comes 103 rfl) rfl rfl ?_
          obtain ⟨s28, e0, h⟩ := Option.bind_eq_some_iff.mp h
          refine r_callV (dc_X10_comes 104 rfl) mv_X10_tables ml_RX10_182 (As := [.int xa1, .int xa2, .int xa3]) (t_X10_tables (d := d - 1) hl (by omega) e0) (by omega) rfl (Nat.le_of_ble_eq_true rfl) ?_
          refine r_iconst (dc_X10_comes 105 rfl) kiconst_0 ?_
          refine r_istore (dc_X10_comes 106 rfl) (by decide) (lo' := [(6, .int (0 : Int32)), (0, .ref a0), (1, .int xa1), (2, .int xa2), (3, .int xa3), (4, .int x6)]) rfl ?_
          refine r_pick [1, 4, 5, 0] (lo' := [(0, .ref a0), (3, .int xa3), (4, .int x6), (6, .int (0 : Int32))]) rfl ?_
          refine l_X10_comes_L202 hl hd (hk227 := ?_) fu _ _ h
          · intro s32 h
            refine r_aload_n (dc_X10_comes 119 rfl) rfl rfl ?_
            refine r_iload_n (dc_X10_comes 120 rfl) rfl rfl ?_
            obtain ⟨s33, e0, h⟩ := Option.bind_eq_some_iff.mp h
            refine r_callV (dc_X10_comes 121 rfl) mv_X10_drops ml_RX10_185 (As := [.int xa3]) (t_X10_drops (d := d - 1) hl (by omega) e0) (by omega) rfl (Nat.le_of_ble_eq_true rfl) ?_
            refine r_iload (dc_X10_comes 122 rfl) rfl ?_
            cases h
            exact r_ireturn (dc_X10_comes 123 rfl) rfl
theorem t_X10_waits {G : Gx} {d : Nat} (hl : G.1.stackTraces = false) (hd : 1 ≤ d) {σ : Sto} {a0 : Nat} {xa1 : Int32} {xa2 : Int32} {r : Int32} (h : F_X10_waits σ a0 xa1 xa2 = some r) : Mi G d m_X10_waits 10 a0 [.int xa1, .int xa2] σ (.inl (some (.int r))) σ := by
  rw [F_X10_waits] at h
  obtain ⟨hg, h⟩ := chk_some h
  refine ⟨J.toMt (lo := [(0, .ref a0), (1, .int xa1), (2, .int xa2)]) pn_RX10 rfl hl (Nat.le_of_ble_eq_true rfl) rfl ?_, hg⟩
  refine r_aload_n (dc_X10_waits 0 rfl) rfl rfl ?_
  obtain ⟨p1, e0, h⟩ := Option.bind_eq_some_iff.mp h
  refine r_getR (dc_X10_waits 1 rfl) fl_RX10_14 e0 ?_
  refine r_sipush (dc_X10_waits 2 rfl) ksipush_5153 ?_
  refine r_iload_n (dc_X10_waits 3 rfl) rfl rfl ?_
  refine r_iload_n (dc_X10_waits 4 rfl) rfl rfl ?_
  obtain ⟨x2, e0, h⟩ := Option.bind_eq_some_iff.mp h
  refine r_callS (dc_X10_waits 5 rfl) ms_X10_couple ml_RX10_78 (As := [.int xa1, .int xa2]) (t_X10_couple (d := d - 1) hl (by omega) e0) (by omega) rfl (Nat.le_of_ble_eq_true rfl) ?_
  refine r_iadd (dc_X10_waits 6 rfl) ?_
  obtain ⟨x3, e0, h⟩ := Option.bind_eq_some_iff.mp h
  refine r_iald (dc_X10_waits 7 rfl) e0 ?_
  cases h
  exact r_ireturn (dc_X10_waits 8 rfl) rfl
theorem l_X10_isGone_L34 {G : Gx} {d : Nat} (hl : G.1.stackTraces = false) (hd : 2 ≤ d) {pL0 : Nat} {xL1 : Int32} {xL2 : Int32} {xL4 : Int32} {r : Sto} {k70 : Sto → Option Sto}
    (hk70 : ∀ (sL : Sto), k70 sL = some r → J G d m_X10_isGone 70 [] [] sL (.inl none) r)
  : ∀ (f : Nat) (xL5 : Int32) (sL : Sto), F_X10_isGone_L34 pL0 xL1 xL2 xL4 f xL5 sL k70 = some r → J G d m_X10_isGone 34 [(0, .ref pL0), (1, .int xL1), (2, .int xL2), (4, .int xL4), (5, .int xL5)] [] sL (.inl none) r := by
  intro f
  induction f with
  | zero => intro xL5 sL h; rw [F_X10_isGone_L34] at h; cases h
  | succ f ih =>
    intro xL5 sL h
    rw [F_X10_isGone_L34] at h
    refine r_iload (dc_X10_isGone 21 rfl) rfl ?_
    refine r_iload_n (dc_X10_isGone 22 rfl) rfl rfl ?_
    refine r_iload_n (dc_X10_isGone 23 rfl) rfl rfl ?_
    refine r_iload (dc_X10_isGone 24 rfl) rfl ?_
    obtain ⟨x6, e0, h⟩ := Option.bind_eq_some_iff.mp h
    refine r_callS (dc_X10_isGone 25 rfl) ms_X10_letterOf ml_RX10_191 (As := [.int xL1, .int xL2, .int xL4]) (t_X10_letterOf (d := d - 1) hl (by omega) e0) (by omega) rfl (Nat.le_of_ble_eq_true rfl) ?_
    refine r_icmp_ge (dc_X10_isGone 26 rfl) (tgt := 70) (by decide) (fun c0 => ?_) (fun c0 => ?_)
    · rw [if_pos c0] at h
      refine r_pick [] (lo' := []) rfl ?_
      exact hk70 _ h
    · rw [if_neg c0] at h
      refine r_aload_n (dc_X10_isGone 27 rfl) rfl rfl ?_
      obtain ⟨p7, e0, h⟩ := Option.bind_eq_some_iff.mp h
      refine r_getR (dc_X10_isGone 28 rfl) fl_RX10_14 e0 ?_
      refine r_iload (dc_X10_isGone 29 rfl) rfl ?_
      refine r_aload_n (dc_X10_isGone 30 rfl) rfl rfl ?_
      obtain ⟨p8, e0, h⟩ := Option.bind_eq_some_iff.mp h
      refine r_getR (dc_X10_isGone 31 rfl) fl_RX10_14 e0 ?_
      refine r_iload (dc_X10_isGone 32 rfl) rfl ?_
      refine r_sipush (dc_X10_isGone 33 rfl) ksipush_147 ?_
      refine r_iadd (dc_X10_isGone 34 rfl) ?_
      obtain ⟨x9, e0, h⟩ := Option.bind_eq_some_iff.mp h
      refine r_iald (dc_X10_isGone 35 rfl) e0 ?_
      obtain ⟨s10, e0, h⟩ := Option.bind_eq_some_iff.mp h
      refine r_iast (dc_X10_isGone 36 rfl) e0 ?_
      refine r_iinc (dc_X10_isGone 37 rfl) rfl (kinc_1 _) (by decide) (lo' := [(5, .int (xL5 + (1 : Int32))), (0, .ref pL0), (1, .int xL1), (2, .int xL2), (4, .int xL4)]) rfl ?_
      refine r_goto (dc_X10_isGone 38 rfl) (tgt := 34) (by decide) ?_
      refine r_pick [1, 2, 3, 4, 0] (lo' := [(0, .ref pL0), (1, .int xL1), (2, .int xL2), (4, .int xL4), (5, .int (xL5 + (1 : Int32)))]) rfl ?_
      exact ih _ _ h
theorem t_X10_isGone {G : Gx} {d : Nat} (hl : G.1.stackTraces = false) (hd : 2 ≤ d) {σ : Sto} {a0 : Nat} {xa1 : Int32} {xa2 : Int32} {xa3 : Int32} {r : Sto} (h : F_X10_isGone σ a0 xa1 xa2 xa3 = some r) : Mi G d m_X10_isGone 10 a0 [.int xa1, .int xa2, .int xa3] σ (.inl none) r := by
  rw [F_X10_isGone] at h
  obtain ⟨hg, h⟩ := chk_some h
  refine ⟨J.toMt (lo := [(0, .ref a0), (1, .int xa1), (2, .int xa2), (3, .int xa3)]) pn_RX10 rfl hl (Nat.le_of_ble_eq_true rfl) rfl ?_, hg⟩
  refine r_aload_n (dc_X10_isGone 0 rfl) rfl rfl ?_
  refine r_iload_n (dc_X10_isGone 1 rfl) rfl rfl ?_
  refine r_iload_n (dc_X10_isGone 2 rfl) rfl rfl ?_
  obtain ⟨x1, e0, h⟩ := Option.bind_eq_some_iff.mp h
  refine r_callV (dc_X10_isGone 3 rfl) mv_X10_waits ml_RX10_188 (As := [.int xa1, .int xa2]) (t_X10_waits (d := d - 1) hl (by omega) e0) (by omega) rfl (Nat.le_of_ble_eq_true rfl) ?_
  refine r_iconst (dc_X10_isGone 4 rfl) kiconst_1 ?_
  refine r_isub (dc_X10_isGone 5 rfl) ?_
  refine r_istore (dc_X10_isGone 6 rfl) (by decide) (lo' := [(4, .int (x1 - (1 : Int32))), (0, .ref a0), (1, .int xa1), (2, .int xa2), (3, .int xa3)]) rfl ?_
  refine r_aload_n (dc_X10_isGone 7 rfl) rfl rfl ?_
  obtain ⟨p2, e0, h⟩ := Option.bind_eq_some_iff.mp h
  refine r_getR (dc_X10_isGone 8 rfl) fl_RX10_14 e0 ?_
  refine r_sipush (dc_X10_isGone 9 rfl) ksipush_5153 ?_
  refine r_iload_n (dc_X10_isGone 10 rfl) rfl rfl ?_
  refine r_iload_n (dc_X10_isGone 11 rfl) rfl rfl ?_
  obtain ⟨x3, e0, h⟩ := Option.bind_eq_some_iff.mp h
  refine r_callS (dc_X10_isGone 12 rfl) ms_X10_couple ml_RX10_78 (As := [.int xa1, .int xa2]) (t_X10_couple (d := d - 1) hl (by omega) e0) (by omega) rfl (Nat.le_of_ble_eq_true rfl) ?_
  refine r_iadd (dc_X10_isGone 13 rfl) ?_
  refine r_iload (dc_X10_isGone 14 rfl) rfl ?_
  obtain ⟨s4, e0, h⟩ := Option.bind_eq_some_iff.mp h
  refine r_iast (dc_X10_isGone 15 rfl) e0 ?_
  refine r_iload_n (dc_X10_isGone 16 rfl) rfl rfl ?_
  refine r_iload_n (dc_X10_isGone 17 rfl) rfl rfl ?_
  refine r_iload_n (dc_X10_isGone 18 rfl) rfl rfl ?_
  obtain ⟨x5, e0, h⟩ := Option.bind_eq_some_iff.mp h
  refine r_callS (dc_X10_isGone 19 rfl) ms_X10_letterOf ml_RX10_191 (As := [.int xa1, .int xa2, .int xa3]) (t_X10_letterOf (d := d - 1) hl (by omega) e0) (by omega) rfl (Nat.le_of_ble_eq_true rfl) ?_
  refine r_istore (dc_X10_isGone 20 rfl) (by decide) (lo' := [(5, .int x5), (4, .int (x1 - (1 : Int32))), (0, .ref a0), (1, .int xa1), (2, .int xa2), (3, .int xa3)]) rfl ?_
  refine r_pick [2, 3, 4, 1, 0] (lo' := [(0, .ref a0), (1, .int xa1), (2, .int xa2), (4, .int (x1 - (1 : Int32))), (5, .int x5)]) rfl ?_
  refine l_X10_isGone_L34 hl hd (hk70 := ?_) fu _ _ h
  · intro s11 h
    cases h
    exact r_vreturn (dc_X10_isGone 39 rfl) rfl
theorem t_X10_linkOf {G : Gx} {d : Nat} (hl : G.1.stackTraces = false) (hd : 1 ≤ d) {σ : Sto} {xa0 : Int32} {xa1 : Int32} {r : Int32} (h : F_X10_linkOf xa0 xa1 = some r) : Mt G d m_X10_linkOf [.int xa0, .int xa1] σ (.inl (some (.int r))) σ := by
  rw [F_X10_linkOf] at h
  refine J.toMt (lo := [(0, .int xa0), (1, .int xa1)]) pn_RX10 rfl hl (Nat.le_of_ble_eq_true rfl) rfl ?_
  refine r_iload_n (dc_X10_linkOf 0 rfl) rfl rfl ?_
  refine r_iload_n (dc_X10_linkOf 1 rfl) rfl rfl ?_
  refine r_icmp_ge (dc_X10_linkOf 2 rfl) (tgt := 13) (by decide) (fun c0 => ?_) (fun c0 => ?_)
  · rw [if_pos c0] at h
    refine r_iload_n (dc_X10_linkOf 7 rfl) rfl rfl ?_
    refine r_iload_n (dc_X10_linkOf 8 rfl) rfl rfl ?_
    obtain ⟨x1, e0, h⟩ := Option.bind_eq_some_iff.mp h
    refine r_callS (dc_X10_linkOf 9 rfl) ms_X10_couple ml_RX10_78 (As := [.int xa1, .int xa0]) (t_X10_couple (d := d - 1) hl (by omega) e0) (by omega) rfl (Nat.le_of_ble_eq_true rfl) ?_
    cases h
    exact r_ireturn (dc_X10_linkOf 10 rfl) rfl
  · rw [if_neg c0] at h
    refine r_iload_n (dc_X10_linkOf 3 rfl) rfl rfl ?_
    refine r_iload_n (dc_X10_linkOf 4 rfl) rfl rfl ?_
    obtain ⟨x2, e0, h⟩ := Option.bind_eq_some_iff.mp h
    refine r_callS (dc_X10_linkOf 5 rfl) ms_X10_couple ml_RX10_78 (As := [.int xa0, .int xa1]) (t_X10_couple (d := d - 1) hl (by omega) e0) (by omega) rfl (Nat.le_of_ble_eq_true rfl) ?_
    refine r_goto (dc_X10_linkOf 6 rfl) (tgt := 18) (by decide) ?_
    cases h
    exact r_ireturn (dc_X10_linkOf 10 rfl) rfl
theorem t_X10_isCut {G : Gx} {d : Nat} (hl : G.1.stackTraces = false) (hd : 2 ≤ d) {σ : Sto} {a0 : Nat} {xa1 : Int32} {xa2 : Int32} {r : Int32} (h : F_X10_isCut σ a0 xa1 xa2 = some r) : Mi G d m_X10_isCut 10 a0 [.int xa1, .int xa2] σ (.inl (some (.int r))) σ := by
  rw [F_X10_isCut] at h
  obtain ⟨hg, h⟩ := chk_some h
  refine ⟨J.toMt (lo := [(0, .ref a0), (1, .int xa1), (2, .int xa2)]) pn_RX10 rfl hl (Nat.le_of_ble_eq_true rfl) rfl ?_, hg⟩
  refine r_aload_n (dc_X10_isCut 0 rfl) rfl rfl ?_
  refine r_bipush (dc_X10_isCut 1 rfl) kbipush_7 ?_
  obtain ⟨x1, e0, h⟩ := Option.bind_eq_some_iff.mp h
  refine r_callV (dc_X10_isCut 2 rfl) mv_X10_of ml_RX10_62 (As := [.int (7 : Int32)]) (t_X10_of (d := d - 1) hl (by omega) e0) (by omega) rfl (Nat.le_of_ble_eq_true rfl) ?_
  refine r_iload_n (dc_X10_isCut 3 rfl) rfl rfl ?_
  refine r_iload_n (dc_X10_isCut 4 rfl) rfl rfl ?_
  obtain ⟨x2, e0, h⟩ := Option.bind_eq_some_iff.mp h
  refine r_callS (dc_X10_isCut 5 rfl) ms_X10_linkOf ml_RX10_194 (As := [.int xa1, .int xa2]) (t_X10_linkOf (d := d - 1) hl (by omega) e0) (by omega) rfl (Nat.le_of_ble_eq_true rfl) ?_
  refine r_ishr (dc_X10_isCut 6 rfl) ?_
  refine r_iconst (dc_X10_isCut 7 rfl) kiconst_1 ?_
  refine r_iand (dc_X10_isCut 8 rfl) ?_
  refine r_iconst (dc_X10_isCut 9 rfl) kiconst_1 ?_
  refine r_icmp_ne (dc_X10_isCut 10 rfl) (tgt := 22) (by decide) (fun c0 => ?_) (fun c0 => ?_)
  · rw [if_neg c0] at h
    refine r_iconst (dc_X10_isCut 13 rfl) kiconst_0 ?_
    cases h
    exact r_zreturn (dc_X10_isCut 14 rfl) rfl (Or.inl rfl)
  · rw [if_pos c0] at h
    refine r_iconst (dc_X10_isCut 11 rfl) kiconst_1 ?_
    refine r_goto (dc_X10_isCut 12 rfl) (tgt := 23) (by decide) ?_
    cases h
    exact r_zreturn (dc_X10_isCut 14 rfl) rfl (Or.inr rfl)
theorem t_X10_canWrite {G : Gx} {d : Nat} (hl : G.1.stackTraces = false) (hd : 3 ≤ d) {σ : Sto} {a0 : Nat} {xa1 : Int32} {xa2 : Int32} {r : (Int32 × Sto)} (h : F_X10_canWrite σ a0 xa1 xa2 = some r) : Mi G d m_X10_canWrite 10 a0 [.int xa1, .int xa2] σ (.inl (some (.int r.1))) r.2 := by
  rw [F_X10_canWrite] at h
  obtain ⟨hg, h⟩ := chk_some h
  refine ⟨J.toMt (lo := [(0, .ref a0), (1, .int xa1), (2, .int xa2)]) pn_RX10 rfl hl (Nat.le_of_ble_eq_true rfl) rfl ?_, hg⟩
  refine r_aload_n (dc_X10_canWrite 0 rfl) rfl rfl ?_
  refine r_iconst (dc_X10_canWrite 1 rfl) kiconst_0 ?_
  obtain ⟨s1, e0, h⟩ := Option.bind_eq_some_iff.mp h
  refine r_put (dc_X10_canWrite 2 rfl) pl_RX10_59 rfl e0 ?_
  refine r_aload_n (dc_X10_canWrite 3 rfl) rfl rfl ?_
  refine r_iload_n (dc_X10_canWrite 4 rfl) rfl rfl ?_
  refine r_iload_n (dc_X10_canWrite 5 rfl) rfl rfl ?_
  obtain ⟨x2, e0, h⟩ := Option.bind_eq_some_iff.mp h
  refine r_callV (dc_X10_canWrite 6 rfl) mv_X10_waits ml_RX10_188 (As := [.int xa1, .int xa2]) (t_X10_waits (d := d - 1) hl (by omega) e0) (by omega) rfl (Nat.le_of_ble_eq_true rfl) ?_
  refine r_bipush (dc_X10_canWrite 7 rfl) kbipush_12 ?_
  refine r_icmp_ge (dc_X10_canWrite 8 rfl) (tgt := 29) (by decide) (fun c0 => ?_) (fun c0 => ?_)
  · rw [if_pos c0] at h
    refine r_iconst (dc_X10_canWrite 16 rfl) kiconst_0 ?_
    cases h
    exact r_zreturn (dc_X10_canWrite 17 rfl) rfl (Or.inl rfl)
  · rw [if_neg c0] at h
    refine r_aload_n (dc_X10_canWrite 9 rfl) rfl rfl ?_
    refine r_iload_n (dc_X10_canWrite 10 rfl) rfl rfl ?_
    refine r_iload_n (dc_X10_canWrite 11 rfl) rfl rfl ?_
    obtain ⟨x3, e0, h⟩ := Option.bind_eq_some_iff.mp h
    refine r_callV (dc_X10_canWrite 12 rfl) mv_X10_isCut ml_RX10_197 (As := [.int xa1, .int xa2]) (t_X10_isCut (d := d - 1) hl (by omega) e0) (by omega) rfl (Nat.le_of_ble_eq_true rfl) ?_
    refine r_if_ne (dc_X10_canWrite 13 rfl) (tgt := 29) (by decide) (fun c0 => ?_) (fun c0 => ?_)
    · rw [if_neg c0] at h
      refine r_iconst (dc_X10_canWrite 16 rfl) kiconst_0 ?_
      cases h
      exact r_zreturn (dc_X10_canWrite 17 rfl) rfl (Or.inl rfl)
    · rw [if_pos c0] at h
      refine r_iconst (dc_X10_canWrite 14 rfl) kiconst_1 ?_
      refine r_goto (dc_X10_canWrite 15 rfl) (tgt := 30) (by decide) ?_
      cases h
      exact r_zreturn (dc_X10_canWrite 17 rfl) rfl (Or.inr rfl)
theorem t_X10_writes {G : Gx} {d : Nat} (hl : G.1.stackTraces = false) (hd : 4 ≤ d) {σ : Sto} {a0 : Nat} {xa1 : Int32} {xa2 : Int32} {r : (Int32 × Sto)} (h : F_X10_writes σ a0 xa1 xa2 = some r) : Mi G d m_X10_writes 10 a0 [.int xa1, .int xa2] σ (.inl (some (.int r.1))) r.2 := by
  rw [F_X10_writes] at h
  obtain ⟨hg, h⟩ := chk_some h
  refine ⟨J.toMt (lo := [(0, .ref a0), (1, .int xa1), (2, .int xa2)]) pn_RX10 rfl hl (Nat.le_of_ble_eq_true rfl) rfl ?_, hg⟩
  refine r_aload_n (dc_X10_writes 0 rfl) rfl rfl ?_
  obtain ⟨s1, e0, h⟩ := Option.bind_eq_some_iff.mp h
  refine r_callV (dc_X10_writes 1 rfl) mv_X10_steps ml_RX10_141 (As := []) (t_X10_steps (d := d - 1) hl (by omega) e0) (by omega) rfl (Nat.le_of_ble_eq_true rfl) ?_
  refine r_aload_n (dc_X10_writes 2 rfl) rfl rfl ?_
  refine r_iload_n (dc_X10_writes 3 rfl) rfl rfl ?_
  refine r_iload_n (dc_X10_writes 4 rfl) rfl rfl ?_
  refine r_aload_n (dc_X10_writes 5 rfl) rfl rfl ?_
  refine r_iload_n (dc_X10_writes 6 rfl) rfl rfl ?_
  refine r_iload_n (dc_X10_writes 7 rfl) rfl rfl ?_
  obtain ⟨x2, e0, h⟩ := Option.bind_eq_some_iff.mp h
  refine r_callV (dc_X10_writes 8 rfl) mv_X10_waits ml_RX10_188 (As := [.int xa1, .int xa2]) (t_X10_waits (d := d - 1) hl (by omega) e0) (by omega) rfl (Nat.le_of_ble_eq_true rfl) ?_
  obtain ⟨x3, e0, h⟩ := Option.bind_eq_some_iff.mp h
  refine r_callS (dc_X10_writes 9 rfl) ms_X10_letterOf ml_RX10_191 (As := [.int xa1, .int xa2, .int x2]) (t_X10_letterOf (d := d - 1) hl (by omega) e0) (by omega) rfl (Nat.le_of_ble_eq_true rfl) ?_
  refine r_iload_n (dc_X10_writes 10 rfl) rfl rfl ?_
  refine r_iload_n (dc_X10_writes 11 rfl) rfl rfl ?_
  obtain ⟨x5, s4, e0, h⟩ := wb_some h
  refine r_callV (dc_X10_writes 12 rfl) mv_X10_lays ml_RX10_200 (As := [.int x3, .int xa1, .int xa2]) (t_X10_lays (d := d - 1) hl (by omega) e0) (by omega) rfl (Nat.le_of_ble_eq_true rfl) ?_
  refine r_istore_n (dc_X10_writes 13 rfl) rfl (by decide) (lo' := [(3, .int x5), (0, .ref a0), (1, .int xa1), (2, .int xa2)]) rfl ?_
  refine r_aload_n (dc_X10_writes 14 rfl) rfl rfl ?_
  obtain ⟨p6, e0, h⟩ := Option.bind_eq_some_iff.mp h
  refine r_getR (dc_X10_writes 15 rfl) fl_RX10_14 e0 ?_
  refine r_sipush (dc_X10_writes 16 rfl) ksipush_5153 ?_
  refine r_iload_n (dc_X10_writes 17 rfl) rfl rfl ?_
  refine r_iload_n (dc_X10_writes 18 rfl) rfl rfl ?_
  obtain ⟨x7, e0, h⟩ := Option.bind_eq_some_iff.mp h
  refine r_callS (dc_X10_writes 19 rfl) ms_X10_couple ml_RX10_78 (As := [.int xa1, .int xa2]) (t_X10_couple (d := d - 1) hl (by omega) e0) (by omega) rfl (Nat.le_of_ble_eq_true rfl) ?_
  refine r_iadd (dc_X10_writes 20 rfl) ?_
  refine r_dup2 (dc_X10_writes 21 rfl) rfl rfl ?_
  obtain ⟨x8, e0, h⟩ := Option.bind_eq_some_iff.mp h
  refine r_iald (dc_X10_writes 22 rfl) e0 ?_
  refine r_iconst (dc_X10_writes 23 rfl) kiconst_1 ?_
  refine r_iadd (dc_X10_writes 24 rfl) ?_
  obtain ⟨s9, e0, h⟩ := Option.bind_eq_some_iff.mp h
  refine r_iast (dc_X10_writes 25 rfl) e0 ?_
  refine r_aload_n (dc_X10_writes 26 rfl) rfl rfl ?_
  obtain ⟨p10, e0, h⟩ := Option.bind_eq_some_iff.mp h
  refine r_getR (dc_X10_writes 27 rfl) fl_RX10_14 e0 ?_
  refine r_iconst (dc_X10_writes 28 rfl) kiconst_3 ?_
  refine r_dup2 (dc_X10_writes 29 rfl) rfl rfl ?_
  obtain ⟨x11, e0, h⟩ := Option.bind_eq_some_iff.mp h
  refine r_iald (dc_X10_writes 30 rfl) e0 ?_
  refine r_iconst (dc_X10_writes 31 rfl) kiconst_1 ?_
  refine r_iadd (dc_X10_writes 32 rfl) ?_
  obtain ⟨s12, e0, h⟩ := Option.bind_eq_some_iff.mp h
  refine r_iast (dc_X10_writes 33 rfl) e0 ?_
  refine r_aload_n (dc_X10_writes 34 rfl) rfl rfl ?_
  obtain ⟨p13, e0, h⟩ := Option.bind_eq_some_iff.mp h
  refine r_getR (dc_X10_writes 35 rfl) fl_RX10_14 e0 ?_
  refine r_iconst (dc_X10_writes 36 rfl) kiconst_4 ?_
  refine r_dup2 (dc_X10_writes 37 rfl) rfl rfl ?_
  obtain ⟨x14, e0, h⟩ := Option.bind_eq_some_iff.mp h
  refine r_iald (dc_X10_writes 38 rfl) e0 ?_
  refine r_iload_n (dc_X10_writes 39 rfl) rfl rfl ?_
  refine r_iadd (dc_X10_writes 40 rfl) ?_
  obtain ⟨s15, e0, h⟩ := Option.bind_eq_some_iff.mp h
  refine r_iast (dc_X10_writes 41 rfl) e0 ?_
  refine r_aload_n (dc_X10_writes 42 rfl) rfl rfl ?_
  refine r_iconst (dc_X10_writes 43 rfl) kiconst_2 ?_
  refine r_iload_n (dc_X10_writes 44 rfl) rfl rfl ?_
  refine r_iload_n (dc_X10_writes 45 rfl) rfl rfl ?_
  obtain ⟨x17, s16, e0, h⟩ := wb_some h
  refine r_callV (dc_X10_writes 46 rfl) mv_X10_notes ml_RX10_148 (As := [.int (2 : Int32), .int xa1, .int x5]) (t_X10_notes (d := d - 1) hl (by omega) e0) (by omega) rfl (Nat.le_of_ble_eq_true rfl) ?_
  cases h
  exact r_ireturn (dc_X10_writes 47 rfl) rfl
theorem l_X10_comesNow_L7 {G : Gx} {d : Nat} (hl : G.1.stackTraces = false) (hd : 6 ≤ d) {pL0 : Nat} {xL1 : Int32} {xL2 : Int32} {xL3 : Int32} {r : (Int32 × Sto)} {k45 : Sto → Option (Int32 × Sto)}
    (hk45 : ∀ (sL : Sto), k45 sL = some r → J G d m_X10_comesNow 45 [(0, .ref pL0), (1, .int xL1), (2, .int xL2), (3, .int xL3)] [] sL (.inl (some (.int r.1))) r.2)
  : ∀ (f : Nat) (xL4 : Int32) (sL : Sto), F_X10_comesNow_L7 pL0 xL1 xL2 xL3 f xL4 sL k45 = some r → J G d m_X10_comesNow 7 [(0, .ref pL0), (1, .int xL1), (2, .int xL2), (3, .int xL3), (4, .int xL4)] [] sL (.inl (some (.int r.1))) r.2 := by
  intro f
  induction f with
  | zero => intro xL4 sL h; rw [F_X10_comesNow_L7] at h; cases h
  | succ f ih =>
    intro xL4 sL h
    rw [F_X10_comesNow_L7] at h
    refine r_iload (dc_X10_comesNow 4 rfl) rfl ?_
    refine r_sipush (dc_X10_comesNow 5 rfl) ksipush_147 ?_
    refine r_icmp_ge (dc_X10_comesNow 6 rfl) (tgt := 45) (by decide) (fun c0 => ?_) (fun c0 => ?_)
    · rw [if_pos c0] at h
      refine r_pick [0, 1, 2, 3] (lo' := [(0, .ref pL0), (1, .int xL1), (2, .int xL2), (3, .int xL3)]) rfl ?_
      exact hk45 _ h
    · rw [if_neg c0] at h
      refine r_aload_n (dc_X10_comesNow 7 rfl) rfl rfl ?_
      obtain ⟨p2, e0, h⟩ := Option.bind_eq_some_iff.mp h
      refine r_getR (dc_X10_comesNow 8 rfl) fl_RX10_14 e0 ?_
      refine r_ldc (dc_X10_comesNow 9 rfl) ck_RX10_203 ?_
      refine r_iload (dc_X10_comesNow 10 rfl) rfl ?_
      refine r_iadd (dc_X10_comesNow 11 rfl) ?_
      refine r_aload_n (dc_X10_comesNow 12 rfl) rfl rfl ?_
      obtain ⟨p3, e0, h⟩ := Option.bind_eq_some_iff.mp h
      refine r_getR (dc_X10_comesNow 13 rfl) fl_RX10_14 e0 ?_
      refine r_iload_n (dc_X10_comesNow 14 rfl) rfl rfl ?_
      refine r_iload_n (dc_X10_comesNow 15 rfl) rfl rfl ?_
      refine r_iload_n (dc_X10_comesNow 16 rfl) rfl rfl ?_
      obtain ⟨x4, e0, h⟩ := Option.bind_eq_some_iff.mp h
      refine r_callS (dc_X10_comesNow 17 rfl) ms_X10_letterOf ml_RX10_191 (As := [.int xL1, .int xL2, .int xL3]) (t_X10_letterOf (d := d - 1) hl (by omega) e0) (by omega) rfl (Nat.le_of_ble_eq_true rfl) ?_
      refine r_iload (dc_X10_comesNow 18 rfl) rfl ?_
      refine r_iadd (dc_X10_comesNow 19 rfl) ?_
      obtain ⟨x5, e0, h⟩ := Option.bind_eq_some_iff.mp h
      refine r_iald (dc_X10_comesNow 20 rfl) e0 ?_
      obtain ⟨s6, e0, h⟩ := Option.bind_eq_some_iff.mp h
      refine r_iast (dc_X10_comesNow 21 rfl) e0 ?_
      refine r_iinc (dc_X10_comesNow 22 rfl) rfl (kinc_1 _) (by decide) (lo' := [(4, .int (xL4 + (1 : Int32))), (0, .ref pL0), (1, .int xL1), (2, .int xL2), (3, .int xL3)]) rfl ?_
      refine r_goto (dc_X10_comesNow 23 rfl) (tgt := 7) (by decide) ?_
      refine r_pick [1, 2, 3, 4, 0] (lo' := [(0, .ref pL0), (1, .int xL1), (2, .int xL2), (3, .int xL3), (4, .int (xL4 + (1 : Int32)))]) rfl ?_
      exact ih _ _ h
theorem t_X10_comesNow {G : Gx} {d : Nat} (hl : G.1.stackTraces = false) (hd : 6 ≤ d) {σ : Sto} {a0 : Nat} {xa1 : Int32} {xa2 : Int32} {xa3 : Int32} {r : (Int32 × Sto)} (h : F_X10_comesNow σ a0 xa1 xa2 xa3 = some r) : Mi G d m_X10_comesNow 10 a0 [.int xa1, .int xa2, .int xa3] σ (.inl (some (.int r.1))) r.2 := by
  rw [F_X10_comesNow] at h
  obtain ⟨hg, h⟩ := chk_some h
  refine ⟨J.toMt (lo := [(0, .ref a0), (1, .int xa1), (2, .int xa2), (3, .int xa3)]) pn_RX10 rfl hl (Nat.le_of_ble_eq_true rfl) rfl ?_, hg⟩
  refine r_aload_n (dc_X10_comesNow 0 rfl) rfl rfl ?_
  obtain ⟨s1, e0, h⟩ := Option.bind_eq_some_iff.mp h
  refine r_callV (dc_X10_comesNow 1 rfl) mv_X10_steps ml_RX10_141 (As := []) (t_X10_steps (d := d - 1) hl (by omega) e0) (by omega) rfl (Nat.le_of_ble_eq_true rfl) ?_
  refine r_iconst (dc_X10_comesNow 2 rfl) kiconst_0 ?_
  refine r_istore (dc_X10_comesNow 3 rfl) (by decide) (lo' := [(4, .int (0 : Int32)), (0, .ref a0), (1, .int xa1), (2, .int xa2), (3, .int xa3)]) rfl ?_
  refine r_pick [1, 2, 3, 4, 0] (lo' := [(0, .ref a0), (1, .int xa1), (2, .int xa2), (3, .int xa3), (4, .int (0 : Int32))]) rfl ?_
  refine l_X10_comesNow_L7 hl hd (hk45 := ?_) fu _ _ h
  · intro s7 h
    refine r_aload_n (dc_X10_comesNow 24 rfl) rfl rfl ?_
    refine r_iload_n (dc_X10_comesNow 25 rfl) rfl rfl ?_
    refine r_iload_n (dc_X10_comesNow 26 rfl) rfl rfl ?_
    refine r_iload_n (dc_X10_comesNow 27 rfl) rfl rfl ?_
    obtain ⟨s8, e0, h⟩ := Option.bind_eq_some_iff.mp h
    refine r_callV (dc_X10_comesNow 28 rfl) mv_X10_isGone ml_RX10_204 (As := [.int xa1, .int xa2, .int xa3]) (t_X10_isGone (d := d - 1) hl (by omega) e0) (by omega) rfl (Nat.le_of_ble_eq_true rfl) ?_
    refine r_aload_n (dc_X10_comesNow 29 rfl) rfl rfl ?_
    refine r_ldc (dc_X10_comesNow 30 rfl) ck_RX10_203 ?_
    refine r_iload_n (dc_X10_comesNow 31 rfl) rfl rfl ?_
    refine r_iload_n (dc_X10_comesNow 32 rfl) rfl rfl ?_
    obtain ⟨x10, s9, e0, h⟩ := wb_some h
    refine r_callV (dc_X10_comesNow 33 rfl) mv_X10_comes ml_RX10_207 (As := [.int (49278 : Int32), .int xa1, .int xa2]) (t_X10_comes (d := d - 1) hl (by omega) e0) (by omega) rfl (Nat.le_of_ble_eq_true rfl) ?_
    refine r_istore (dc_X10_comesNow 34 rfl) (by decide) (lo' := [(4, .int x10), (0, .ref a0), (1, .int xa1), (2, .int xa2), (3, .int xa3)]) rfl ?_
    refine r_aload_n (dc_X10_comesNow 35 rfl) rfl rfl ?_
    obtain ⟨p11, e0, h⟩ := Option.bind_eq_some_iff.mp h
    refine r_getR (dc_X10_comesNow 36 rfl) fl_RX10_14 e0 ?_
    refine r_iconst (dc_X10_comesNow 37 rfl) kiconst_5 ?_
    refine r_dup2 (dc_X10_comesNow 38 rfl) rfl rfl ?_
    obtain ⟨x12, e0, h⟩ := Option.bind_eq_some_iff.mp h
    refine r_iald (dc_X10_comesNow 39 rfl) e0 ?_
    refine r_aload_n (dc_X10_comesNow 40 rfl) rfl rfl ?_
    obtain ⟨p13, e0, h⟩ := Option.bind_eq_some_iff.mp h
    refine r_getR (dc_X10_comesNow 41 rfl) fl_RX10_14 e0 ?_
    refine r_ldc (dc_X10_comesNow 42 rfl) ck_RX10_210 ?_
    obtain ⟨x14, e0, h⟩ := Option.bind_eq_some_iff.mp h
    refine r_iald (dc_X10_comesNow 43 rfl) e0 ?_
    refine r_iload (dc_X10_comesNow 44 rfl) rfl ?_
    refine r_isub (dc_X10_comesNow 45 rfl) ?_
    refine r_iadd (dc_X10_comesNow 46 rfl) ?_
    obtain ⟨s15, e0, h⟩ := Option.bind_eq_some_iff.mp h
    refine r_iast (dc_X10_comesNow 47 rfl) e0 ?_
    refine r_aload_n (dc_X10_comesNow 48 rfl) rfl rfl ?_
    refine r_iconst (dc_X10_comesNow 49 rfl) kiconst_3 ?_
    refine r_iload_n (dc_X10_comesNow 50 rfl) rfl rfl ?_
    refine r_iload (dc_X10_comesNow 51 rfl) rfl ?_
    obtain ⟨x17, s16, e0, h⟩ := wb_some h
    refine r_callV (dc_X10_comesNow 52 rfl) mv_X10_notes ml_RX10_148 (As := [.int (3 : Int32), .int xa1, .int x10]) (t_X10_notes (d := d - 1) hl (by omega) e0) (by omega) rfl (Nat.le_of_ble_eq_true rfl) ?_
    cases h
    exact r_ireturn (dc_X10_comesNow 53 rfl) rfl
theorem t_X10_write {G : Gx} {d : Nat} (hl : G.1.stackTraces = false) (hd : 5 ≤ d) {σ : Sto} {a0 : Nat} {xa1 : Int32} {xa2 : Int32} {r : (Int32 × Sto)} (h : F_X10_write σ a0 xa1 xa2 = some r) : Mi G d m_X10_write 10 a0 [.int xa1, .int xa2] σ (.inl (some (.int r.1))) r.2 := by
  rw [F_X10_write] at h
  obtain ⟨hg, h⟩ := chk_some h
  refine ⟨J.toMt (lo := [(0, .ref a0), (1, .int xa1), (2, .int xa2)]) pn_RX10 rfl hl (Nat.le_of_ble_eq_true rfl) rfl ?_, hg⟩
  refine r_aload_n (dc_X10_write 0 rfl) rfl rfl ?_
  refine r_iconst (dc_X10_write 1 rfl) kiconst_0 ?_
  obtain ⟨s1, e0, h⟩ := Option.bind_eq_some_iff.mp h
  refine r_put (dc_X10_write 2 rfl) pl_RX10_1 rfl e0 ?_
  refine r_aload_n (dc_X10_write 3 rfl) rfl rfl ?_
  refine r_iload_n (dc_X10_write 4 rfl) rfl rfl ?_
  refine r_iload_n (dc_X10_write 5 rfl) rfl rfl ?_
  obtain ⟨x2, e0, h⟩ := Option.bind_eq_some_iff.mp h
  refine r_callV (dc_X10_write 6 rfl) mv_X10_areTwo ml_RX10_211 (As := [.int xa1, .int xa2]) (t_X10_areTwo (d := d - 1) hl (by omega) e0) (by omega) rfl (Nat.le_of_ble_eq_true rfl) ?_
  refine r_if_ne (dc_X10_write 7 rfl) (tgt := 20) (by decide) (fun c0 => ?_) (fun c0 => ?_)
  · rw [if_neg c0] at h
    refine r_aload_n (dc_X10_write 12 rfl) rfl rfl ?_
    refine r_iload_n (dc_X10_write 13 rfl) rfl rfl ?_
    refine r_iload_n (dc_X10_write 14 rfl) rfl rfl ?_
    obtain ⟨x4, s3, e0, h⟩ := wb_some h
    refine r_callV (dc_X10_write 15 rfl) mv_X10_canWrite ml_RX10_214 (As := [.int xa1, .int xa2]) (t_X10_canWrite (d := d - 1) hl (by omega) e0) (by omega) rfl (Nat.le_of_ble_eq_true rfl) ?_
    refine r_if_eq (dc_X10_write 16 rfl) (tgt := 38) (by decide) (fun c0 => ?_) (fun c0 => ?_)
    · rw [if_pos c0] at h
      refine r_aload_n (dc_X10_write 22 rfl) rfl rfl ?_
      refine r_iconst (dc_X10_write 23 rfl) kiconst_2 ?_
      obtain ⟨x6, s5, e0, h⟩ := wb_some h
      refine r_callV (dc_X10_write 24 rfl) mv_X10_fails ml_RX10_101 (As := [.int (2 : Int32)]) (t_X10_fails (d := d - 1) hl (by omega) e0) (by omega) rfl (Nat.le_of_ble_eq_true rfl) ?_
      cases h
      exact r_ireturn (dc_X10_write 25 rfl) rfl
    · rw [if_neg c0] at h
      refine r_aload_n (dc_X10_write 17 rfl) rfl rfl ?_
      refine r_iload_n (dc_X10_write 18 rfl) rfl rfl ?_
      refine r_iload_n (dc_X10_write 19 rfl) rfl rfl ?_
      obtain ⟨x8, s7, e0, h⟩ := wb_some h
      refine r_callV (dc_X10_write 20 rfl) mv_X10_writes ml_RX10_217 (As := [.int xa1, .int xa2]) (t_X10_writes (d := d - 1) hl (by omega) e0) (by omega) rfl (Nat.le_of_ble_eq_true rfl) ?_
      refine r_goto (dc_X10_write 21 rfl) (tgt := 43) (by decide) ?_
      cases h
      exact r_ireturn (dc_X10_write 25 rfl) rfl
  · rw [if_pos c0] at h
    refine r_aload_n (dc_X10_write 8 rfl) rfl rfl ?_
    refine r_iconst (dc_X10_write 9 rfl) kiconst_1 ?_
    obtain ⟨x10, s9, e0, h⟩ := wb_some h
    refine r_callV (dc_X10_write 10 rfl) mv_X10_fails ml_RX10_101 (As := [.int (1 : Int32)]) (t_X10_fails (d := d - 1) hl (by omega) e0) (by omega) rfl (Nat.le_of_ble_eq_true rfl) ?_
    cases h
    exact r_ireturn (dc_X10_write 11 rfl) rfl
