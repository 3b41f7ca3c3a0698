theorem t_X6_learn {G : Gx} {d : Nat} (hl : G.1.stackTraces = false) (hd : 1 ≤ d) {σ : Sto} {a0 : Nat} {pa1 : Nat} {pa2 : Nat} {r : Sto} (h : F_X6_learn σ a0 pa1 pa2 = some r) : Mi G d m_X6_learn 6 a0 [.ref pa1, .ref pa2] σ (.inl none) r := by
  rw [F_X6_learn] at h
  obtain ⟨hg, h⟩ := chk_some h
  refine ⟨J.toMt (lo := [(0, .ref a0), (1, .ref pa1), (2, .ref pa2)]) pn_RX6 rfl hl (Nat.le_of_ble_eq_true rfl) rfl ?_, hg⟩
  refine r_aload_n (dc_X6_learn 0 rfl) rfl rfl ?_
  obtain ⟨x1, e0, h⟩ := Option.bind_eq_some_iff.mp h
  refine r_getI (dc_X6_learn 1 rfl) fl_RX6_123 e0 ?_
  refine r_iconst (dc_X6_learn 2 rfl) kiconst_2 ?_
  refine r_icmp_ne (dc_X6_learn 3 rfl) (tgt := 77) (by decide) (fun c0 => ?_) (fun c0 => ?_)
  · rw [if_neg c0] at h
    refine r_aload_n (dc_X6_learn 42 rfl) rfl rfl ?_
    refine r_aload_n (dc_X6_learn 43 rfl) rfl rfl ?_
    obtain ⟨x2, e0, h⟩ := Option.bind_eq_some_iff.mp h
    refine r_getI (dc_X6_learn 44 rfl) fl_RX6_94 e0 ?_
    refine r_aload_n (dc_X6_learn 45 rfl) rfl rfl ?_
    obtain ⟨p3, e0, h⟩ := Option.bind_eq_some_iff.mp h
    refine r_getR (dc_X6_learn 46 rfl) fl_RX6_129 e0 ?_
    refine r_aload_n (dc_X6_learn 47 rfl) rfl rfl ?_
    obtain ⟨x4, e0, h⟩ := Option.bind_eq_some_iff.mp h
    refine r_getI (dc_X6_learn 48 rfl) fl_RX6_100 e0 ?_
    obtain ⟨s5, e0, h⟩ := Option.bind_eq_some_iff.mp h
    refine r_callV (dc_X6_learn 49 rfl) mv_X6_raiseRow ml_RX6_130 (As := [.int x2, .ref p3, .int x4]) (t_X6_raiseRow (d := d - 1) hl (by omega) e0) (by omega) rfl (Nat.le_of_ble_eq_true rfl) ?_
    refine r_aload_n (dc_X6_learn 50 rfl) rfl rfl ?_
    obtain ⟨x6, e0, h⟩ := Option.bind_eq_some_iff.mp h
    refine r_getI (dc_X6_learn 51 rfl) fl_RX6_123 e0 ?_
    refine r_iconst (dc_X6_learn 52 rfl) kiconst_1 ?_
    refine r_icmp_ne (dc_X6_learn 53 rfl) (tgt := 118) (by decide) (fun c0 => ?_) (fun c0 => ?_)
    · rw [if_neg c0] at h
      refine r_iconst (dc_X6_learn 63 rfl) kiconst_0 ?_
      refine r_istore_n (dc_X6_learn 64 rfl) rfl (by decide) (lo' := [(3, .int (0 : Int32)), (0, .ref a0), (1, .ref pa1), (2, .ref pa2)]) rfl ?_
      refine r_pick [1, 2, 0] (lo' := [(0, .ref a0), (1, .ref pa1), (3, .int (0 : Int32))]) rfl ?_
      refine l_X6_learn_L120 hl hd (hk141 := ?_) fu _ _ h
      · intro s9 h
        cases h
        exact r_vreturn (dc_X6_learn 76 rfl) rfl
    · rw [if_pos c0] at h
      refine r_aload_n (dc_X6_learn 54 rfl) rfl rfl ?_
      refine r_aload_n (dc_X6_learn 55 rfl) rfl rfl ?_
      obtain ⟨x10, e0, h⟩ := Option.bind_eq_some_iff.mp h
      refine r_getI (dc_X6_learn 56 rfl) fl_RX6_100 e0 ?_
      refine r_aload_n (dc_X6_learn 57 rfl) rfl rfl ?_
      obtain ⟨p11, e0, h⟩ := Option.bind_eq_some_iff.mp h
      refine r_getR (dc_X6_learn 58 rfl) fl_RX6_129 e0 ?_
      refine r_aload_n (dc_X6_learn 59 rfl) rfl rfl ?_
      obtain ⟨x12, e0, h⟩ := Option.bind_eq_some_iff.mp h
      refine r_getI (dc_X6_learn 60 rfl) fl_RX6_100 e0 ?_
      obtain ⟨s13, e0, h⟩ := Option.bind_eq_some_iff.mp h
      refine r_callV (dc_X6_learn 61 rfl) mv_X6_raiseRow ml_RX6_130 (As := [.int x10, .ref p11, .int x12]) (t_X6_raiseRow (d := d - 1) hl (by omega) e0) (by omega) rfl (Nat.le_of_ble_eq_true rfl) ?_
      cases h
      exact r_vreturn (dc_X6_learn 62 rfl) rfl
  · rw [if_pos c0] at h
    refine r_iconst (dc_X6_learn 4 rfl) kiconst_0 ?_
    refine r_istore_n (dc_X6_learn 5 rfl) rfl (by decide) (lo' := [(3, .int (0 : Int32)), (0, .ref a0), (1, .ref pa1), (2, .ref pa2)]) rfl ?_
    refine r_pick [1, 2, 3, 0] (lo' := [(0, .ref a0), (1, .ref pa1), (2, .ref pa2), (3, .int (0 : Int32))]) rfl ?_
    refine l_X6_learn_L10 hl hd (hk76 := ?_) fu _ _ h
    · intro s29 h
      cases h
      exact r_vreturn (dc_X6_learn 41 rfl) rfl
theorem l_X6_isKnownToAll_L8 {G : Gx} {d : Nat} (hl : G.1.stackTraces = false) (hd : 0 ≤ d) {sL : Sto} {pL0 : Nat} {pL1 : Nat} {xL2 : Int32} {xL3 : Int32} {r : Int32} {k40 : Option Int32}
    (hk40 : k40  = some r → J G d m_X6_isKnownToAll 40 [] [] sL (.inl (some (.int r))) sL)
  : ∀ (f : Nat) (xL4 : Int32), F_X6_isKnownToAll_L8 sL pL0 pL1 xL2 xL3 f xL4 k40 = some r → J G d m_X6_isKnownToAll 8 [(0, .ref pL0), (1, .ref pL1), (2, .int xL2), (3, .int xL3), (4, .int xL4)] [] sL (.inl (some (.int r))) sL := by
  intro f
  induction f with
  | zero => intro xL4 h; rw [F_X6_isKnownToAll_L8] at h; cases h
  | succ f ih =>
    intro xL4 h
    rw [F_X6_isKnownToAll_L8] at h
    refine r_iload (dc_X6_isKnownToAll 5 rfl) rfl ?_
    refine r_iload_n (dc_X6_isKnownToAll 6 rfl) rfl rfl ?_
    refine r_iconst (dc_X6_isKnownToAll 7 rfl) kiconst_5 ?_
    refine r_imul (dc_X6_isKnownToAll 8 rfl) ?_
    refine r_icmp_ge (dc_X6_isKnownToAll 9 rfl) (tgt := 40) (by decide) (fun c0 => ?_) (fun c0 => ?_)
    · rw [if_pos c0] at h
      refine r_pick [] (lo' := []) rfl ?_
      exact hk40  h
    · rw [if_neg c0] at h
      refine r_aload_n (dc_X6_isKnownToAll 10 rfl) rfl rfl ?_
      obtain ⟨p3, e0, h⟩ := Option.bind_eq_some_iff.mp h
      refine r_getR (dc_X6_isKnownToAll 11 rfl) fl_RX6_25 e0 ?_
      refine r_iload (dc_X6_isKnownToAll 12 rfl) rfl ?_
      obtain ⟨x4, e0, h⟩ := Option.bind_eq_some_iff.mp h
      refine r_iald (dc_X6_isKnownToAll 13 rfl) e0 ?_
      refine r_aload_n (dc_X6_isKnownToAll 14 rfl) rfl rfl ?_
      obtain ⟨p5, e0, h⟩ := Option.bind_eq_some_iff.mp h
      refine r_getR (dc_X6_isKnownToAll 15 rfl) fl_RX6_60 e0 ?_
      refine r_iload_n (dc_X6_isKnownToAll 16 rfl) rfl rfl ?_
      obtain ⟨x6, e0, h⟩ := Option.bind_eq_some_iff.mp h
      refine r_iald (dc_X6_isKnownToAll 17 rfl) e0 ?_
      refine r_icmp_ge (dc_X6_isKnownToAll 18 rfl) (tgt := 34) (by decide) (fun c0 => ?_) (fun c0 => ?_)
      · rw [if_pos c0] at h
        refine r_iinc (dc_X6_isKnownToAll 21 rfl) rfl (kinc_5 _) (by decide) (lo' := [(4, .int (xL4 + (5 : Int32))), (0, .ref pL0), (1, .ref pL1), (2, .int xL2), (3, .int xL3)]) rfl ?_
        refine r_goto (dc_X6_isKnownToAll 22 rfl) (tgt := 8) (by decide) ?_
        refine r_pick [1, 2, 3, 4, 0] (lo' := [(0, .ref pL0), (1, .ref pL1), (2, .int xL2), (3, .int xL3), (4, .int (xL4 + (5 : Int32)))]) rfl ?_
        exact ih _ h
      · rw [if_neg c0] at h
        refine r_iconst (dc_X6_isKnownToAll 19 rfl) kiconst_0 ?_
        cases h
        exact r_zreturn (dc_X6_isKnownToAll 20 rfl) rfl (Or.inl rfl)
theorem t_X6_isKnownToAll {G : Gx} {d : Nat} (hl : G.1.stackTraces = false) (hd : 0 ≤ d) {σ : Sto} {a0 : Nat} {pa1 : Nat} {xa2 : Int32} {xa3 : Int32} {r : Int32} (h : F_X6_isKnownToAll σ a0 pa1 xa2 xa3 = some r) : Mi G d m_X6_isKnownToAll 6 a0 [.ref pa1, .int xa2, .int xa3] σ (.inl (some (.int r))) σ := by
  rw [F_X6_isKnownToAll] at h
  obtain ⟨hg, h⟩ := chk_some h
  refine ⟨J.toMt (lo := [(0, .ref a0), (1, .ref pa1), (2, .int xa2), (3, .int xa3)]) pn_RX6 rfl hl (Nat.le_of_ble_eq_true rfl) rfl ?_, hg⟩
  refine r_aload_n (dc_X6_isKnownToAll 0 rfl) rfl rfl ?_
  obtain ⟨p1, e0, h⟩ := Option.bind_eq_some_iff.mp h
  refine r_getR (dc_X6_isKnownToAll 1 rfl) fl_RX6_55 e0 ?_
  refine r_iload_n (dc_X6_isKnownToAll 2 rfl) rfl rfl ?_
  obtain ⟨x2, e0, h⟩ := Option.bind_eq_some_iff.mp h
  refine r_iald (dc_X6_isKnownToAll 3 rfl) e0 ?_
  refine r_istore (dc_X6_isKnownToAll 4 rfl) (by decide) (lo' := [(4, .int x2), (0, .ref a0), (1, .ref pa1), (2, .int xa2), (3, .int xa3)]) rfl ?_
  refine r_pick [1, 2, 3, 4, 0] (lo' := [(0, .ref a0), (1, .ref pa1), (2, .int xa2), (3, .int xa3), (4, .int x2)]) rfl ?_
  refine l_X6_isKnownToAll_L8 hl hd (hk40 := ?_) fu _ h
  · intro h
    refine r_iconst (dc_X6_isKnownToAll 23 rfl) kiconst_1 ?_
    cases h
    exact r_zreturn (dc_X6_isKnownToAll 24 rfl) rfl (Or.inr rfl)
theorem l_X6_dropKnownToAll_L5 {G : Gx} {d : Nat} (hl : G.1.stackTraces = false) (hd : 1 ≤ d) {pL0 : Nat} {pL1 : Nat} {xL2 : Int32} {r : Sto} {k52 : Int32 → Sto → Option Sto}
    (hk52 : ∀ (xL3 : Int32) (sL : Sto), k52 xL3 sL = some r → J G d m_X6_dropKnownToAll 52 [(0, .ref pL0), (3, .int xL3)] [] sL (.inl none) r)
  : ∀ (f : Nat) (xL3 : Int32) (xL4 : Int32) (sL : Sto), F_X6_dropKnownToAll_L5 pL0 pL1 xL2 f xL3 xL4 sL k52 = some r → J G d m_X6_dropKnownToAll 5 [(0, .ref pL0), (1, .ref pL1), (2, .int xL2), (3, .int xL3), (4, .int xL4)] [] sL (.inl none) r := by
  intro f
  induction f with
  | zero => intro xL3 xL4 sL h; rw [F_X6_dropKnownToAll_L5] at h; cases h
  | succ f ih =>
    intro xL3 xL4 sL h
    rw [F_X6_dropKnownToAll_L5] at h
    refine r_iload (dc_X6_dropKnownToAll 4 rfl) rfl ?_
    refine r_aload_n (dc_X6_dropKnownToAll 5 rfl) rfl rfl ?_
    obtain ⟨x1, e0, h⟩ := Option.bind_eq_some_iff.mp h
    refine r_getI (dc_X6_dropKnownToAll 6 rfl) fl_RX6_37 e0 ?_
    refine r_icmp_ge (dc_X6_dropKnownToAll 7 rfl) (tgt := 52) (by decide) (fun c0 => ?_) (fun c0 => ?_)
    · rw [if_pos c0] at h
      refine r_pick [0, 3] (lo' := [(0, .ref pL0), (3, .int xL3)]) rfl ?_
      exact hk52 _ _ h
    · rw [if_neg c0] at h
      refine r_aload_n (dc_X6_dropKnownToAll 8 rfl) rfl rfl ?_
      refine r_aload_n (dc_X6_dropKnownToAll 9 rfl) rfl rfl ?_
      refine r_aload_n (dc_X6_dropKnownToAll 10 rfl) rfl rfl ?_
      obtain ⟨p2, e0, h⟩ := Option.bind_eq_some_iff.mp h
      refine r_getR (dc_X6_dropKnownToAll 11 rfl) fl_RX6_21 e0 ?_
      refine r_iload (dc_X6_dropKnownToAll 12 rfl) rfl ?_
      obtain ⟨x3, e0, h⟩ := Option.bind_eq_some_iff.mp h
      refine r_iald (dc_X6_dropKnownToAll 13 rfl) e0 ?_
      refine r_iload_n (dc_X6_dropKnownToAll 14 rfl) rfl rfl ?_
      obtain ⟨x4, e0, h⟩ := Option.bind_eq_some_iff.mp h
      refine r_callV (dc_X6_dropKnownToAll 15 rfl) mv_X6_isKnownToAll ml_RX6_134 (As := [.ref pL1, .int x3, .int xL2]) (t_X6_isKnownToAll (d := d - 1) hl (by omega) e0) (by omega) rfl (Nat.le_of_ble_eq_true rfl) ?_
      refine r_if_ne (dc_X6_dropKnownToAll 16 rfl) (tgt := 46) (by decide) (fun c0 => ?_) (fun c0 => ?_)
      · rw [if_neg c0] at h
        refine r_iinc (dc_X6_dropKnownToAll 26 rfl) rfl (kinc_1 _) (by decide) (lo' := [(4, .int (xL4 + (1 : Int32))), (0, .ref pL0), (1, .ref pL1), (2, .int xL2), (3, .int xL3)]) rfl ?_
        refine r_goto (dc_X6_dropKnownToAll 27 rfl) (tgt := 5) (by decide) ?_
        refine r_pick [1, 2, 3, 4, 0] (lo' := [(0, .ref pL0), (1, .ref pL1), (2, .int xL2), (3, .int xL3), (4, .int (xL4 + (1 : Int32)))]) rfl ?_
        exact ih _ _ _ h
      · rw [if_pos c0] at h
        refine r_aload_n (dc_X6_dropKnownToAll 17 rfl) rfl rfl ?_
        obtain ⟨p5, e0, h⟩ := Option.bind_eq_some_iff.mp h
        refine r_getR (dc_X6_dropKnownToAll 18 rfl) fl_RX6_21 e0 ?_
        refine r_iload_n (dc_X6_dropKnownToAll 19 rfl) rfl rfl ?_
        refine r_aload_n (dc_X6_dropKnownToAll 20 rfl) rfl rfl ?_
        obtain ⟨p6, e0, h⟩ := Option.bind_eq_some_iff.mp h
        refine r_getR (dc_X6_dropKnownToAll 21 rfl) fl_RX6_21 e0 ?_
        refine r_iload (dc_X6_dropKnownToAll 22 rfl) rfl ?_
        obtain ⟨x7, e0, h⟩ := Option.bind_eq_some_iff.mp h
        refine r_iald (dc_X6_dropKnownToAll 23 rfl) e0 ?_
        obtain ⟨s8, e0, h⟩ := Option.bind_eq_some_iff.mp h
        refine r_iast (dc_X6_dropKnownToAll 24 rfl) e0 ?_
        refine r_iinc (dc_X6_dropKnownToAll 25 rfl) rfl (kinc_1 _) (by decide) (lo' := [(3, .int (xL3 + (1 : Int32))), (0, .ref pL0), (1, .ref pL1), (2, .int xL2), (4, .int xL4)]) rfl ?_
        refine r_iinc (dc_X6_dropKnownToAll 26 rfl) rfl (kinc_1 _) (by decide) (lo' := [(4, .int (xL4 + (1 : Int32))), (3, .int (xL3 + (1 : Int32))), (0, .ref pL0), (1, .ref pL1), (2, .int xL2)]) rfl ?_
        refine r_goto (dc_X6_dropKnownToAll 27 rfl) (tgt := 5) (by decide) ?_
        refine r_pick [2, 3, 4, 1, 0] (lo' := [(0, .ref pL0), (1, .ref pL1), (2, .int xL2), (3, .int (xL3 + (1 : Int32))), (4, .int (xL4 + (1 : Int32)))]) rfl ?_
        exact ih _ _ _ h
theorem t_X6_dropKnownToAll {G : Gx} {d : Nat} (hl : G.1.stackTraces = false) (hd : 1 ≤ d) {σ : Sto} {a0 : Nat} {pa1 : Nat} {xa2 : Int32} {r : Sto} (h : F_X6_dropKnownToAll σ a0 pa1 xa2 = some r) : Mi G d m_X6_dropKnownToAll 6 a0 [.ref pa1, .int xa2] σ (.inl none) r := by
  rw [F_X6_dropKnownToAll] at h
  obtain ⟨hg, h⟩ := chk_some h
  refine ⟨J.toMt (lo := [(0, .ref a0), (1, .ref pa1), (2, .int xa2)]) pn_RX6 rfl hl (Nat.le_of_ble_eq_true rfl) rfl ?_, hg⟩
  refine r_iconst (dc_X6_dropKnownToAll 0 rfl) kiconst_0 ?_
  refine r_istore_n (dc_X6_dropKnownToAll 1 rfl) rfl (by decide) (lo' := [(3, .int (0 : Int32)), (0, .ref a0), (1, .ref pa1), (2, .int xa2)]) rfl ?_
  refine r_iconst (dc_X6_dropKnownToAll 2 rfl) kiconst_0 ?_
  refine r_istore (dc_X6_dropKnownToAll 3 rfl) (by decide) (lo' := [(4, .int (0 : Int32)), (3, .int (0 : Int32)), (0, .ref a0), (1, .ref pa1), (2, .int xa2)]) rfl ?_
  refine r_pick [2, 3, 4, 1, 0] (lo' := [(0, .ref a0), (1, .ref pa1), (2, .int xa2), (3, .int (0 : Int32)), (4, .int (0 : Int32))]) rfl ?_
  refine l_X6_dropKnownToAll_L5 hl hd (hk52 := ?_) fu _ _ _ h
  · intro x9 s10 h
    refine r_aload_n (dc_X6_dropKnownToAll 28 rfl) rfl rfl ?_
    refine r_iload_n (dc_X6_dropKnownToAll 29 rfl) rfl rfl ?_
    obtain ⟨s11, e0, h⟩ := Option.bind_eq_some_iff.mp h
    refine r_put (dc_X6_dropKnownToAll 30 rfl) pl_RX6_37 rfl e0 ?_
    cases h
    exact r_vreturn (dc_X6_dropKnownToAll 31 rfl) rfl
theorem l_X6_receive_L9 {G : Gx} {d : Nat} (hl : G.1.stackTraces = false) (hd : 2 ≤ d) {pL0 : Nat} {pL1 : Nat} {pL2 : Nat} {xL3 : Int32} {xL4 : Int32} {xL5 : Int32} {r : (Int32 × Sto)} {k54 : Sto → Option (Int32 × Sto)}
    (hk54 : ∀ (sL : Sto), k54 sL = some r → J G d m_X6_receive 54 [(0, .ref pL0), (1, .ref pL1), (2, .ref pL2), (3, .int xL3), (4, .int xL4), (5, .int xL5)] [] sL (.inl (some (.int r.1))) r.2)
  : ∀ (f : Nat) (xL6 : Int32) (sL : Sto), F_X6_receive_L9 pL0 pL1 pL2 f xL6 sL k54 = some r → J G d m_X6_receive 9 [(0, .ref pL0), (1, .ref pL1), (2, .ref pL2), (3, .int xL3), (4, .int xL4), (5, .int xL5), (6, .int xL6)] [] sL (.inl (some (.int r.1))) r.2 := by
  intro f
  induction f with
  | zero => intro xL6 sL h; rw [F_X6_receive_L9] at h; cases h
  | succ f ih =>
    intro xL6 sL h
    rw [F_X6_receive_L9] at h
    refine r_iload (dc_X6_receive 5 rfl) rfl ?_
    refine r_aload_n (dc_X6_receive 6 rfl) rfl rfl ?_
    obtain ⟨x2, e0, h⟩ := Option.bind_eq_some_iff.mp h
    refine r_getI (dc_X6_receive 7 rfl) fl_RX6_89 e0 ?_
    refine r_icmp_ge (dc_X6_receive 8 rfl) (tgt := 54) (by decide) (fun c0 => ?_) (fun c0 => ?_)
    · rw [if_pos c0] at h
      refine r_pick [0, 1, 2, 3, 4, 5] (lo' := [(0, .ref pL0), (1, .ref pL1), (2, .ref pL2), (3, .int xL3), (4, .int xL4), (5, .int xL5)]) rfl ?_
      exact hk54 _ h
    · rw [if_neg c0] at h
      refine r_aload_n (dc_X6_receive 9 rfl) rfl rfl ?_
      refine r_aload_n (dc_X6_receive 10 rfl) rfl rfl ?_
      refine r_aload_n (dc_X6_receive 11 rfl) rfl rfl ?_
      obtain ⟨x3, e0, h⟩ := Option.bind_eq_some_iff.mp h
      refine r_getI (dc_X6_receive 12 rfl) fl_RX6_94 e0 ?_
      refine r_aload_n (dc_X6_receive 13 rfl) rfl rfl ?_
      obtain ⟨p4, e0, h⟩ := Option.bind_eq_some_iff.mp h
      refine r_getR (dc_X6_receive 14 rfl) fl_RX6_97 e0 ?_
      refine r_iload (dc_X6_receive 15 rfl) rfl ?_
      obtain ⟨x5, e0, h⟩ := Option.bind_eq_some_iff.mp h
      refine r_iald (dc_X6_receive 16 rfl) e0 ?_
      obtain ⟨x6, e0, h⟩ := Option.bind_eq_some_iff.mp h
      refine r_callV (dc_X6_receive 17 rfl) mv_X6_isKnown ml_RX6_63 (As := [.ref pL2, .int x3, .int x5]) (t_X6_isKnown (d := d - 1) hl (by omega) e0) (by omega) rfl (Nat.le_of_ble_eq_true rfl) ?_
      refine r_if_ne (dc_X6_receive 18 rfl) (tgt := 48) (by decide) (fun c0 => ?_) (fun c0 => ?_)
      · rw [if_neg c0] at h
        refine r_iinc (dc_X6_receive 25 rfl) rfl (kinc_1 _) (by decide) (lo' := [(6, .int (xL6 + (1 : Int32))), (0, .ref pL0), (1, .ref pL1), (2, .ref pL2), (3, .int xL3), (4, .int xL4), (5, .int xL5)]) rfl ?_
        refine r_goto (dc_X6_receive 26 rfl) (tgt := 9) (by decide) ?_
        refine r_pick [1, 2, 3, 4, 5, 6, 0] (lo' := [(0, .ref pL0), (1, .ref pL1), (2, .ref pL2), (3, .int xL3), (4, .int xL4), (5, .int xL5), (6, .int (xL6 + (1 : Int32)))]) rfl ?_
        exact ih _ _ h
      · rw [if_pos c0] at h
        refine r_aload_n (dc_X6_receive 19 rfl) rfl rfl ?_
        refine r_aload_n (dc_X6_receive 20 rfl) rfl rfl ?_
        obtain ⟨p7, e0, h⟩ := Option.bind_eq_some_iff.mp h
        refine r_getR (dc_X6_receive 21 rfl) fl_RX6_97 e0 ?_
        refine r_iload (dc_X6_receive 22 rfl) rfl ?_
        obtain ⟨x8, e0, h⟩ := Option.bind_eq_some_iff.mp h
        refine r_iald (dc_X6_receive 23 rfl) e0 ?_
        obtain ⟨s9, e0, h⟩ := Option.bind_eq_some_iff.mp h
        refine r_callV (dc_X6_receive 24 rfl) mv_X6_appendToLog ml_RX6_78 (As := [.int x8]) (t_X6_appendToLog (d := d - 1) hl (by omega) e0) (by omega) rfl (Nat.le_of_ble_eq_true rfl) ?_
        refine r_iinc (dc_X6_receive 25 rfl) rfl (kinc_1 _) (by decide) (lo' := [(6, .int (xL6 + (1 : Int32))), (0, .ref pL0), (1, .ref pL1), (2, .ref pL2), (3, .int xL3), (4, .int xL4), (5, .int xL5)]) rfl ?_
        refine r_goto (dc_X6_receive 26 rfl) (tgt := 9) (by decide) ?_
        refine r_pick [1, 2, 3, 4, 5, 6, 0] (lo' := [(0, .ref pL0), (1, .ref pL1), (2, .ref pL2), (3, .int xL3), (4, .int xL4), (5, .int xL5), (6, .int (xL6 + (1 : Int32)))]) rfl ?_
        exact ih _ _ h
theorem l_X6_receive_L67 {G : Gx} {d : Nat} (hl : G.1.stackTraces = false) (hd : 2 ≤ d) {pL0 : Nat} {pL1 : Nat} {pL2 : Nat} {xL3 : Int32} {xL4 : Int32} {xL5 : Int32} {xL6 : Int32} {r : (Int32 × Sto)} {k99 : Sto → Option (Int32 × Sto)}
    (hk99 : ∀ (sL : Sto), k99 sL = some r → J G d m_X6_receive 99 [(0, .ref pL0), (1, .ref pL1), (2, .ref pL2), (3, .int xL3), (5, .int xL5), (6, .int xL6)] [] sL (.inl (some (.int r.1))) r.2)
  : ∀ (f : Nat) (xL7 : Int32) (sL : Sto), F_X6_receive_L67 pL0 pL1 xL4 f xL7 sL k99 = some r → J G d m_X6_receive 67 [(0, .ref pL0), (1, .ref pL1), (2, .ref pL2), (3, .int xL3), (4, .int xL4), (5, .int xL5), (6, .int xL6), (7, .int xL7)] [] sL (.inl (some (.int r.1))) r.2 := by
  intro f
  induction f with
  | zero => intro xL7 sL h; rw [F_X6_receive_L67] at h; cases h
  | succ f ih =>
    intro xL7 sL h
    rw [F_X6_receive_L67] at h
    refine r_iload (dc_X6_receive 34 rfl) rfl ?_
    refine r_aload_n (dc_X6_receive 35 rfl) rfl rfl ?_
    obtain ⟨x12, e0, h⟩ := Option.bind_eq_some_iff.mp h
    refine r_getI (dc_X6_receive 36 rfl) fl_RX6_37 e0 ?_
    refine r_icmp_ge (dc_X6_receive 37 rfl) (tgt := 99) (by decide) (fun c0 => ?_) (fun c0 => ?_)
    · rw [if_pos c0] at h
      refine r_pick [0, 1, 2, 3, 5, 6] (lo' := [(0, .ref pL0), (1, .ref pL1), (2, .ref pL2), (3, .int xL3), (5, .int xL5), (6, .int xL6)]) rfl ?_
      exact hk99 _ h
    · rw [if_neg c0] at h
      refine r_aload_n (dc_X6_receive 38 rfl) rfl rfl ?_
      refine r_aload_n (dc_X6_receive 39 rfl) rfl rfl ?_
      obtain ⟨p13, e0, h⟩ := Option.bind_eq_some_iff.mp h
      refine r_getR (dc_X6_receive 40 rfl) fl_RX6_21 e0 ?_
      refine r_iload (dc_X6_receive 41 rfl) rfl ?_
      obtain ⟨x14, e0, h⟩ := Option.bind_eq_some_iff.mp h
      refine r_iald (dc_X6_receive 42 rfl) e0 ?_
      refine r_iload (dc_X6_receive 43 rfl) rfl ?_
      refine r_aload_n (dc_X6_receive 44 rfl) rfl rfl ?_
      obtain ⟨x15, e0, h⟩ := Option.bind_eq_some_iff.mp h
      refine r_getI (dc_X6_receive 45 rfl) fl_RX6_100 e0 ?_
      obtain ⟨s16, e0, h⟩ := Option.bind_eq_some_iff.mp h
      refine r_callV (dc_X6_receive 46 rfl) mv_X6_gain ml_RX6_74 (As := [.int x14, .int xL4, .int x15]) (t_X6_gain (d := d - 1) hl (by omega) e0) (by omega) rfl (Nat.le_of_ble_eq_true rfl) ?_
      refine r_iinc (dc_X6_receive 47 rfl) rfl (kinc_1 _) (by decide) (lo' := [(7, .int (xL7 + (1 : Int32))), (0, .ref pL0), (1, .ref pL1), (2, .ref pL2), (3, .int xL3), (4, .int xL4), (5, .int xL5), (6, .int xL6)]) rfl ?_
      refine r_goto (dc_X6_receive 48 rfl) (tgt := 67) (by decide) ?_
      refine r_pick [1, 2, 3, 4, 5, 6, 7, 0] (lo' := [(0, .ref pL0), (1, .ref pL1), (2, .ref pL2), (3, .int xL3), (4, .int xL4), (5, .int xL5), (6, .int xL6), (7, .int (xL7 + (1 : Int32)))]) rfl ?_
      exact ih _ _ h
theorem t_X6_receive {G : Gx} {d : Nat} (hl : G.1.stackTraces = false) (hd : 2 ≤ d) {σ : Sto} {a0 : Nat} {pa1 : Nat} {pa2 : Nat} {xa3 : Int32} {xa4 : Int32} {r : (Int32 × Sto)} (h : F_X6_receive σ a0 pa1 pa2 xa3 xa4 = some r) : Mi G d m_X6_receive 6 a0 [.ref pa1, .ref pa2, .int xa3, .int xa4] σ (.inl (some (.int r.1))) r.2 := by
  rw [F_X6_receive] at h
  obtain ⟨hg, h⟩ := chk_some h
  refine ⟨J.toMt (lo := [(0, .ref a0), (1, .ref pa1), (2, .ref pa2), (3, .int xa3), (4, .int xa4)]) pn_RX6 rfl hl (Nat.le_of_ble_eq_true rfl) rfl ?_, hg⟩
  refine r_aload_n (dc_X6_receive 0 rfl) rfl rfl ?_
  obtain ⟨x1, e0, h⟩ := Option.bind_eq_some_iff.mp h
  refine r_getI (dc_X6_receive 1 rfl) fl_RX6_37 e0 ?_
  refine r_istore (dc_X6_receive 2 rfl) (by decide) (lo' := [(5, .int x1), (0, .ref a0), (1, .ref pa1), (2, .ref pa2), (3, .int xa3), (4, .int xa4)]) rfl ?_
  refine r_iconst (dc_X6_receive 3 rfl) kiconst_0 ?_
  refine r_istore (dc_X6_receive 4 rfl) (by decide) (lo' := [(6, .int (0 : Int32)), (5, .int x1), (0, .ref a0), (1, .ref pa1), (2, .ref pa2), (3, .int xa3), (4, .int xa4)]) rfl ?_
  refine r_pick [2, 3, 4, 5, 6, 1, 0] (lo' := [(0, .ref a0), (1, .ref pa1), (2, .ref pa2), (3, .int xa3), (4, .int xa4), (5, .int x1), (6, .int (0 : Int32))]) rfl ?_
  refine l_X6_receive_L9 hl hd (hk54 := ?_) fu _ _ h
  · intro s10 h
    refine r_aload_n (dc_X6_receive 27 rfl) rfl rfl ?_
    obtain ⟨x11, e0, h⟩ := Option.bind_eq_some_iff.mp h
    refine r_getI (dc_X6_receive 28 rfl) fl_RX6_37 e0 ?_
    refine r_iload (dc_X6_receive 29 rfl) rfl ?_
    refine r_isub (dc_X6_receive 30 rfl) ?_
    refine r_istore (dc_X6_receive 31 rfl) (by decide) (lo' := [(6, .int (x11 - x1)), (0, .ref a0), (1, .ref pa1), (2, .ref pa2), (3, .int xa3), (4, .int xa4), (5, .int x1)]) rfl ?_
    refine r_iload (dc_X6_receive 32 rfl) rfl ?_
    refine r_istore (dc_X6_receive 33 rfl) (by decide) (lo' := [(7, .int x1), (6, .int (x11 - x1)), (0, .ref a0), (1, .ref pa1), (2, .ref pa2), (3, .int xa3), (4, .int xa4), (5, .int x1)]) rfl ?_
    refine r_pick [2, 3, 4, 5, 6, 7, 1, 0] (lo' := [(0, .ref a0), (1, .ref pa1), (2, .ref pa2), (3, .int xa3), (4, .int xa4), (5, .int x1), (6, .int (x11 - x1)), (7, .int x1)]) rfl ?_
    refine l_X6_receive_L67 hl hd (hk99 := ?_) fu _ _ h
    · intro s17 h
      refine r_aload_n (dc_X6_receive 49 rfl) rfl rfl ?_
      refine r_aload_n (dc_X6_receive 50 rfl) rfl rfl ?_
      refine r_iload (dc_X6_receive 51 rfl) rfl ?_
      obtain ⟨s18, e0, h⟩ := Option.bind_eq_some_iff.mp h
      refine r_callV (dc_X6_receive 52 rfl) mv_X6_changeView ml_RX6_103 (As := [.ref pa2, .int x1]) (t_X6_changeView (d := d - 1) hl (by omega) e0) (by omega) rfl (Nat.le_of_ble_eq_true rfl) ?_
      refine r_aload_n (dc_X6_receive 53 rfl) rfl rfl ?_
      refine r_aload_n (dc_X6_receive 54 rfl) rfl rfl ?_
      refine r_aload_n (dc_X6_receive 55 rfl) rfl rfl ?_
      obtain ⟨s19, e0, h⟩ := Option.bind_eq_some_iff.mp h
      refine r_callV (dc_X6_receive 56 rfl) mv_X6_learn ml_RX6_107 (As := [.ref pa1, .ref pa2]) (t_X6_learn (d := d - 1) hl (by omega) e0) (by omega) rfl (Nat.le_of_ble_eq_true rfl) ?_
      refine r_aload_n (dc_X6_receive 57 rfl) rfl rfl ?_
      refine r_aload_n (dc_X6_receive 58 rfl) rfl rfl ?_
      refine r_iload_n (dc_X6_receive 59 rfl) rfl rfl ?_
      obtain ⟨s20, e0, h⟩ := Option.bind_eq_some_iff.mp h
      refine r_callV (dc_X6_receive 60 rfl) mv_X6_dropKnownToAll ml_RX6_111 (As := [.ref pa2, .int xa3]) (t_X6_dropKnownToAll (d := d - 1) hl (by omega) e0) (by omega) rfl (Nat.le_of_ble_eq_true rfl) ?_
      refine r_iload (dc_X6_receive 61 rfl) rfl ?_
      cases h
      exact r_ireturn (dc_X6_receive 62 rfl) rfl
theorem t_X5_tellNext {G : Gx} {d : Nat} (hl : G.1.stackTraces = false) (hd : 3 ≤ d) {σ : Sto} {a0 : Nat} {xa1 : Int32} {r : (Int32 × Sto)} (h : F_X5_tellNext σ a0 xa1 = some r) : Mi G d m_X5_tellNext 5 a0 [.int xa1] σ (.inl (some (.int r.1))) r.2 := by
  rw [F_X5_tellNext] at h
  obtain ⟨hg, h⟩ := chk_some h
  refine ⟨J.toMt (lo := [(0, .ref a0), (1, .int xa1)]) pn_RX5 rfl hl (Nat.le_of_ble_eq_true rfl) rfl ?_, hg⟩
  refine r_aload_n (dc_X5_tellNext 0 rfl) rfl rfl ?_
  obtain ⟨p1, e0, h⟩ := Option.bind_eq_some_iff.mp h
  refine r_getR (dc_X5_tellNext 1 rfl) fl_RX5_40 e0 ?_
  refine r_iload_n (dc_X5_tellNext 2 rfl) rfl rfl ?_
  obtain ⟨x2, e0, h⟩ := Option.bind_eq_some_iff.mp h
  refine r_callV (dc_X5_tellNext 3 rfl) mv_X8_nextSite ml_RX5_190 (As := [.int xa1]) (t_X8_nextSite (d := d - 1) hl (by omega) e0) (by omega) rfl (Nat.le_of_ble_eq_true rfl) ?_
  refine r_istore_n (dc_X5_tellNext 4 rfl) rfl (by decide) (lo' := [(2, .int x2), (0, .ref a0), (1, .int xa1)]) rfl ?_
  refine r_aload_n (dc_X5_tellNext 5 rfl) rfl rfl ?_
  obtain ⟨p3, e0, h⟩ := Option.bind_eq_some_iff.mp h
  refine r_getR (dc_X5_tellNext 6 rfl) fl_RX5_25 e0 ?_
  refine r_aload_n (dc_X5_tellNext 7 rfl) rfl rfl ?_
  obtain ⟨p4, e0, h⟩ := Option.bind_eq_some_iff.mp h
  refine r_getR (dc_X5_tellNext 8 rfl) fl_RX5_11 e0 ?_
  refine r_iload_n (dc_X5_tellNext 9 rfl) rfl rfl ?_
  obtain ⟨p5, e0, h⟩ := Option.bind_eq_some_iff.mp h
  refine r_aaldR (dc_X5_tellNext 10 rfl) (kd := 4) rfl e0 ?_
  refine r_aload_n (dc_X5_tellNext 11 rfl) rfl rfl ?_
  obtain ⟨p6, e0, h⟩ := Option.bind_eq_some_iff.mp h
  refine r_getR (dc_X5_tellNext 12 rfl) fl_RX5_40 e0 ?_
  obtain ⟨p7, e0, h⟩ := Option.bind_eq_some_iff.mp h
  refine r_getR (dc_X5_tellNext 13 rfl) fl_RX5_50 e0 ?_
  refine r_iload_n (dc_X5_tellNext 14 rfl) rfl rfl ?_
  refine r_iload_n (dc_X5_tellNext 15 rfl) rfl rfl ?_
  refine r_aload_n (dc_X5_tellNext 16 rfl) rfl rfl ?_
  obtain ⟨p8, e0, h⟩ := Option.bind_eq_some_iff.mp h
  refine r_getR (dc_X5_tellNext 17 rfl) fl_RX5_40 e0 ?_
  obtain ⟨x9, e0, h⟩ := Option.bind_eq_some_iff.mp h
  refine r_getI (dc_X5_tellNext 18 rfl) fl_RX5_159 e0 ?_
  obtain ⟨s10, e0, h⟩ := Option.bind_eq_some_iff.mp h
  refine r_callV (dc_X5_tellNext 19 rfl) mv_X3_compose ml_RX5_162 (As := [.ref p5, .ref p7, .int xa1, .int x2, .int x9]) (t_X3_compose (d := d - 1) hl (by omega) e0) (by omega) rfl (Nat.le_of_ble_eq_true rfl) ?_
  refine r_aload_n (dc_X5_tellNext 20 rfl) rfl rfl ?_
  obtain ⟨p11, e0, h⟩ := Option.bind_eq_some_iff.mp h
  refine r_getR (dc_X5_tellNext 21 rfl) fl_RX5_11 e0 ?_
  refine r_iload_n (dc_X5_tellNext 22 rfl) rfl rfl ?_
  obtain ⟨p12, e0, h⟩ := Option.bind_eq_some_iff.mp h
  refine r_aaldR (dc_X5_tellNext 23 rfl) (kd := 4) rfl e0 ?_
  refine r_aload_n (dc_X5_tellNext 24 rfl) rfl rfl ?_
  obtain ⟨p13, e0, h⟩ := Option.bind_eq_some_iff.mp h
  refine r_getR (dc_X5_tellNext 25 rfl) fl_RX5_25 e0 ?_
  refine r_aload_n (dc_X5_tellNext 26 rfl) rfl rfl ?_
  obtain ⟨p14, e0, h⟩ := Option.bind_eq_some_iff.mp h
  refine r_getR (dc_X5_tellNext 27 rfl) fl_RX5_40 e0 ?_
  obtain ⟨p15, e0, h⟩ := Option.bind_eq_some_iff.mp h
  refine r_getR (dc_X5_tellNext 28 rfl) fl_RX5_50 e0 ?_
  refine r_aload_n (dc_X5_tellNext 29 rfl) rfl rfl ?_
  obtain ⟨p16, e0, h⟩ := Option.bind_eq_some_iff.mp h
  refine r_getR (dc_X5_tellNext 30 rfl) fl_RX5_40 e0 ?_
  obtain ⟨x17, e0, h⟩ := Option.bind_eq_some_iff.mp h
  refine r_getI (dc_X5_tellNext 31 rfl) fl_RX5_45 e0 ?_
  refine r_aload_n (dc_X5_tellNext 32 rfl) rfl rfl ?_
  obtain ⟨p18, e0, h⟩ := Option.bind_eq_some_iff.mp h
  refine r_getR (dc_X5_tellNext 33 rfl) fl_RX5_40 e0 ?_
  obtain ⟨x19, e0, h⟩ := Option.bind_eq_some_iff.mp h
  refine r_getI (dc_X5_tellNext 34 rfl) fl_RX5_199 e0 ?_
  obtain ⟨x21, s20, e0, h⟩ := wb_some h
  refine r_callV (dc_X5_tellNext 35 rfl) mv_X6_receive ml_RX5_202 (As := [.ref p13, .ref p15, .int x17, .int x19]) (t_X6_receive (d := d - 1) hl (by omega) e0) (by omega) rfl (Nat.le_of_ble_eq_true rfl) ?_
  cases h
  exact r_ireturn (dc_X5_tellNext 36 rfl) rfl
theorem l_X5_playGossip_L2 {G : Gx} {d : Nat} (hl : G.1.stackTraces = false) (hd : 4 ≤ d) {pL0 : Nat} {xL1 : Int32} {r : (Int32 × Sto)} {k37 : Sto → Option (Int32 × Sto)}
    (hk37 : ∀ (sL : Sto), k37 sL = some r → J G d m_X5_playGossip 37 [(0, .ref pL0), (1, .int xL1)] [] sL (.inl (some (.int r.1))) r.2)
  : ∀ (f : Nat) (xL2 : Int32) (sL : Sto), F_X5_playGossip_L2 pL0 f xL2 sL k37 = some r → J G d m_X5_playGossip 2 [(0, .ref pL0), (1, .int xL1), (2, .int xL2)] [] sL (.inl (some (.int r.1))) r.2 := by
  intro f
  induction f with
  | zero => intro xL2 sL h; rw [F_X5_playGossip_L2] at h; cases h
  | succ f ih =>
    intro xL2 sL h
    rw [F_X5_playGossip_L2] at h
    refine r_iload_n (dc_X5_playGossip 2 rfl) rfl rfl ?_
    refine r_aload_n (dc_X5_playGossip 3 rfl) rfl rfl ?_
    obtain ⟨p1, e0, h⟩ := Option.bind_eq_some_iff.mp h
    refine r_getR (dc_X5_playGossip 4 rfl) fl_RX5_40 e0 ?_
    obtain ⟨x2, e0, h⟩ := Option.bind_eq_some_iff.mp h
    refine r_getI (dc_X5_playGossip 5 rfl) fl_RX5_45 e0 ?_
    refine r_icmp_ge (dc_X5_playGossip 6 rfl) (tgt := 37) (by decide) (fun c0 => ?_) (fun c0 => ?_)
    · rw [if_pos c0] at h
      refine r_pick [0, 1] (lo' := [(0, .ref pL0), (1, .int xL1)]) rfl ?_
      exact hk37 _ h
    · rw [if_neg c0] at h
      refine r_aload_n (dc_X5_playGossip 7 rfl) rfl rfl ?_
      obtain ⟨p3, e0, h⟩ := Option.bind_eq_some_iff.mp h
      refine r_getR (dc_X5_playGossip 8 rfl) fl_RX5_11 e0 ?_
      refine r_iload_n (dc_X5_playGossip 9 rfl) rfl rfl ?_
      obtain ⟨p4, e0, h⟩ := Option.bind_eq_some_iff.mp h
      refine r_aaldR (dc_X5_playGossip 10 rfl) (kd := 4) rfl e0 ?_
      refine r_aload_n (dc_X5_playGossip 11 rfl) rfl rfl ?_
      obtain ⟨p5, e0, h⟩ := Option.bind_eq_some_iff.mp h
      refine r_getR (dc_X5_playGossip 12 rfl) fl_RX5_40 e0 ?_
      obtain ⟨p6, e0, h⟩ := Option.bind_eq_some_iff.mp h
      refine r_getR (dc_X5_playGossip 13 rfl) fl_RX5_66 e0 ?_
      refine r_iload_n (dc_X5_playGossip 14 rfl) rfl rfl ?_
      obtain ⟨p7, e0, h⟩ := Option.bind_eq_some_iff.mp h
      refine r_aaldR (dc_X5_playGossip 15 rfl) (kd := 4) rfl e0 ?_
      obtain ⟨s8, e0, h⟩ := Option.bind_eq_some_iff.mp h
      refine r_callV (dc_X5_playGossip 16 rfl) mv_X6_copyOf ml_RX5_180 (As := [.ref p7]) (t_X6_copyOf (d := d - 1) hl (by omega) e0) (by omega) rfl (Nat.le_of_ble_eq_true rfl) ?_
      refine r_iinc (dc_X5_playGossip 17 rfl) rfl (kinc_1 _) (by decide) (lo' := [(2, .int (xL2 + (1 : Int32))), (0, .ref pL0), (1, .int xL1)]) rfl ?_
      refine r_goto (dc_X5_playGossip 18 rfl) (tgt := 2) (by decide) ?_
      refine r_pick [1, 2, 0] (lo' := [(0, .ref pL0), (1, .int xL1), (2, .int (xL2 + (1 : Int32)))]) rfl ?_
      exact ih _ _ h
theorem l_X5_playGossip_L92 {G : Gx} {d : Nat} (hl : G.1.stackTraces = false) (hd : 4 ≤ d) {pL0 : Nat} {xL1 : Int32} {xL4 : Int32} {r : (Int32 × Sto)} {k157 : Int32 → Int32 → Sto → Option (Int32 × Sto)}
    (hk157 : ∀ (xL2 : Int32) (xL3 : Int32) (sL : Sto), k157 xL2 xL3 sL = some r → J G d m_X5_playGossip 157 [(0, .ref pL0), (1, .int xL1), (2, .int xL2), (3, .int xL3), (4, .int xL4)] [] sL (.inl (some (.int r.1))) r.2)
  : ∀ (f : Nat) (xL2 : Int32) (xL3 : Int32) (xL6 : Int32) (sL : Sto), F_X5_playGossip_L92 pL0 xL4 f xL2 xL3 xL6 sL k157 = some r → J G d m_X5_playGossip 92 [(0, .ref pL0), (1, .int xL1), (2, .int xL2), (3, .int xL3), (4, .int xL4), (6, .int xL6)] [] sL (.inl (some (.int r.1))) r.2 := by
  intro f
  induction f with
  | zero => intro xL2 xL3 xL6 sL h; rw [F_X5_playGossip_L92] at h; cases h
  | succ f ih =>
    intro xL2 xL3 xL6 sL h
    rw [F_X5_playGossip_L92] at h
    refine r_iload (dc_X5_playGossip 48 rfl) rfl ?_
    refine r_aload_n (dc_X5_playGossip 49 rfl) rfl rfl ?_
    obtain ⟨p11, e0, h⟩ := Option.bind_eq_some_iff.mp h
    refine r_getR (dc_X5_playGossip 50 rfl) fl_RX5_40 e0 ?_
    obtain ⟨x12, e0, h⟩ := Option.bind_eq_some_iff.mp h
    refine r_getI (dc_X5_playGossip 51 rfl) fl_RX5_45 e0 ?_
    refine r_icmp_ge (dc_X5_playGossip 52 rfl) (tgt := 157) (by decide) (fun c0 => ?_) (fun c0 => ?_)
    · rw [if_pos c0] at h
      refine r_pick [0, 1, 2, 3, 4] (lo' := [(0, .ref pL0), (1, .int xL1), (2, .int xL2), (3, .int xL3), (4, .int xL4)]) rfl ?_
      exact hk157 _ _ _ h
    · rw [if_neg c0] at h
      refine r_iload (dc_X5_playGossip 53 rfl) rfl ?_
      refine r_bipush (dc_X5_playGossip 54 rfl) kbipush_12 ?_
      refine r_icmp_ge (dc_X5_playGossip 55 rfl) (tgt := 157) (by decide) (fun c0 => ?_) (fun c0 => ?_)
      · rw [if_pos c0] at h
        refine r_pick [0, 1, 2, 3, 4] (lo' := [(0, .ref pL0), (1, .int xL1), (2, .int xL2), (3, .int xL3), (4, .int xL4)]) rfl ?_
        exact hk157 _ _ _ h
      · rw [if_neg c0] at h
        refine r_aload_n (dc_X5_playGossip 56 rfl) rfl rfl ?_
        obtain ⟨p13, e0, h⟩ := Option.bind_eq_some_iff.mp h
        refine r_getR (dc_X5_playGossip 57 rfl) fl_RX5_40 e0 ?_
        refine r_iload (dc_X5_playGossip 58 rfl) rfl ?_
        refine r_aload_n (dc_X5_playGossip 59 rfl) rfl rfl ?_
        obtain ⟨p14, e0, h⟩ := Option.bind_eq_some_iff.mp h
        refine r_getR (dc_X5_playGossip 60 rfl) fl_RX5_40 e0 ?_
        refine r_iload (dc_X5_playGossip 61 rfl) rfl ?_
        obtain ⟨x15, e0, h⟩ := Option.bind_eq_some_iff.mp h
        refine r_callV (dc_X5_playGossip 62 rfl) mv_X8_nextSite ml_RX5_190 (As := [.int xL6]) (t_X8_nextSite (d := d - 1) hl (by omega) e0) (by omega) rfl (Nat.le_of_ble_eq_true rfl) ?_
        obtain ⟨x16, e0, h⟩ := Option.bind_eq_some_iff.mp h
        refine r_callV (dc_X5_playGossip 63 rfl) mv_X8_isCut ml_RX5_193 (As := [.int xL6, .int x15]) (t_X8_isCut (d := d - 1) hl (by omega) e0) (by omega) rfl (Nat.le_of_ble_eq_true rfl) ?_
        refine r_if_ne (dc_X5_playGossip 64 rfl) (tgt := 151) (by decide) (fun c0 => ?_) (fun c0 => ?_)
        · rw [if_neg c0] at h
          refine r_iinc (dc_X5_playGossip 77 rfl) rfl (kinc_1 _) (by decide) (lo' := [(6, .int (xL6 + (1 : Int32))), (0, .ref pL0), (1, .int xL1), (2, .int xL2), (3, .int xL3), (4, .int xL4)]) rfl ?_
          refine r_goto (dc_X5_playGossip 78 rfl) (tgt := 92) (by decide) ?_
          refine r_pick [1, 2, 3, 4, 5, 0] (lo' := [(0, .ref pL0), (1, .int xL1), (2, .int xL2), (3, .int xL3), (4, .int xL4), (6, .int (xL6 + (1 : Int32)))]) rfl ?_
          exact ih _ _ _ _ h
        · rw [if_pos c0] at h
          refine r_iload_n (dc_X5_playGossip 65 rfl) rfl rfl ?_
          refine r_aload_n (dc_X5_playGossip 66 rfl) rfl rfl ?_
          refine r_iload (dc_X5_playGossip 67 rfl) rfl ?_
          obtain ⟨x18, s17, e0, h⟩ := wb_some h
          refine r_callV (dc_X5_playGossip 68 rfl) mv_X5_tellNext ml_RX5_196 (As := [.int xL6]) (t_X5_tellNext (d := d - 1) hl (by omega) e0) (by omega) rfl (Nat.le_of_ble_eq_true rfl) ?_
          refine r_iadd (dc_X5_playGossip 69 rfl) ?_
          refine r_istore_n (dc_X5_playGossip 70 rfl) rfl (by decide) (lo' := [(3, .int (xL3 + x18)), (0, .ref pL0), (1, .int xL1), (2, .int xL2), (4, .int xL4), (6, .int xL6)]) rfl ?_
          refine r_iload_n (dc_X5_playGossip 71 rfl) rfl rfl ?_
          refine r_aload_n (dc_X5_playGossip 72 rfl) rfl rfl ?_
          obtain ⟨p19, e0, h⟩ := Option.bind_eq_some_iff.mp h
          refine r_getR (dc_X5_playGossip 73 rfl) fl_RX5_25 e0 ?_
          obtain ⟨x20, e0, h⟩ := Option.bind_eq_some_iff.mp h
          refine r_getI (dc_X5_playGossip 74 rfl) fl_RX5_166 e0 ?_
          refine r_iadd (dc_X5_playGossip 75 rfl) ?_
          refine r_istore_n (dc_X5_playGossip 76 rfl) rfl (by decide) (lo' := [(2, .int (xL2 + x20)), (3, .int (xL3 + x18)), (0, .ref pL0), (1, .int xL1), (4, .int xL4), (6, .int xL6)]) rfl ?_
          refine r_iinc (dc_X5_playGossip 77 rfl) rfl (kinc_1 _) (by decide) (lo' := [(6, .int (xL6 + (1 : Int32))), (2, .int (xL2 + x20)), (3, .int (xL3 + x18)), (0, .ref pL0), (1, .int xL1), (4, .int xL4)]) rfl ?_
          refine r_goto (dc_X5_playGossip 78 rfl) (tgt := 92) (by decide) ?_
          refine r_pick [3, 4, 1, 2, 5, 0] (lo' := [(0, .ref pL0), (1, .int xL1), (2, .int (xL2 + x20)), (3, .int (xL3 + x18)), (4, .int xL4), (6, .int (xL6 + (1 : Int32)))]) rfl ?_
          exact ih _ _ _ _ h
theorem l_X5_playGossip_L44 {G : Gx} {d : Nat} (hl : G.1.stackTraces = false) (hd : 4 ≤ d) {pL0 : Nat} {xL1 : Int32} {r : (Int32 × Sto)} {k163 : Int32 → Int32 → Sto → Option (Int32 × Sto)}
    (hk163 : ∀ (xL2 : Int32) (xL3 : Int32) (sL : Sto), k163 xL2 xL3 sL = some r → J G d m_X5_playGossip 163 [(1, .int xL1), (2, .int xL2), (3, .int xL3)] [] sL (.inl (some (.int r.1))) r.2)
  : ∀ (f : Nat) (xL2 : Int32) (xL3 : Int32) (xL4 : Int32) (sL : Sto), F_X5_playGossip_L44 pL0 xL1 f xL2 xL3 xL4 sL k163 = some r → J G d m_X5_playGossip 44 [(0, .ref pL0), (1, .int xL1), (2, .int xL2), (3, .int xL3), (4, .int xL4)] [] sL (.inl (some (.int r.1))) r.2 := by
  intro f
  induction f with
  | zero => intro xL2 xL3 xL4 sL h; rw [F_X5_playGossip_L44] at h; cases h
  | succ f ih =>
    intro xL2 xL3 xL4 sL h
    rw [F_X5_playGossip_L44] at h
    refine r_iload (dc_X5_playGossip 25 rfl) rfl ?_
    refine r_bipush (dc_X5_playGossip 26 rfl) kbipush_12 ?_
    refine r_icmp_gt (dc_X5_playGossip 27 rfl) (tgt := 163) (by decide) (fun c0 => ?_) (fun c0 => ?_)
    · rw [if_pos c0] at h
      refine r_pick [1, 2, 3] (lo' := [(1, .int xL1), (2, .int xL2), (3, .int xL3)]) rfl ?_
      exact hk163 _ _ _ h
    · rw [if_neg c0] at h
      refine r_aload_n (dc_X5_playGossip 28 rfl) rfl rfl ?_
      obtain ⟨x10, e0, h⟩ := Option.bind_eq_some_iff.mp h
      refine r_callV (dc_X5_playGossip 29 rfl) mv_X5_allLogsAreEmpty ml_RX5_183 (As := []) (t_X5_allLogsAreEmpty (d := d - 1) hl (by omega) e0) (by omega) rfl (Nat.le_of_ble_eq_true rfl) ?_
      refine r_istore (dc_X5_playGossip 30 rfl) (by decide) (lo' := [(5, .int x10), (0, .ref pL0), (1, .int xL1), (2, .int xL2), (3, .int xL3), (4, .int xL4)]) rfl ?_
      refine r_iload_n (dc_X5_playGossip 31 rfl) rfl rfl ?_
      refine r_if_ne (dc_X5_playGossip 32 rfl) (tgt := 68) (by decide) (fun c0 => ?_) (fun c0 => ?_)
      · rw [if_neg c0] at h
        refine r_iload_n (dc_X5_playGossip 36 rfl) rfl rfl ?_
        refine r_iconst (dc_X5_playGossip 37 rfl) kiconst_1 ?_
        refine r_icmp_ne (dc_X5_playGossip 38 rfl) (tgt := 81) (by decide) (fun c0 => ?_) (fun c0 => ?_)
        · rw [if_neg c0] at h
          refine r_iload (dc_X5_playGossip 43 rfl) rfl ?_
          refine r_if_eq (dc_X5_playGossip 44 rfl) (tgt := 89) (by decide) (fun c0 => ?_) (fun c0 => ?_)
          · rw [if_pos c0] at h
            refine r_iconst (dc_X5_playGossip 46 rfl) kiconst_0 ?_
            refine r_istore (dc_X5_playGossip 47 rfl) (by decide) (lo' := [(6, .int (0 : Int32)), (5, .int x10), (0, .ref pL0), (1, .int xL1), (2, .int xL2), (3, .int xL3), (4, .int xL4)]) rfl ?_
            refine r_pick [2, 3, 4, 5, 6, 0] (lo' := [(0, .ref pL0), (1, .int xL1), (2, .int xL2), (3, .int xL3), (4, .int xL4), (6, .int (0 : Int32))]) rfl ?_
            refine l_X5_playGossip_L92 hl hd (hk157 := ?_) fu _ _ _ _ h
            · intro x21 x22 s23 h
              refine r_iinc (dc_X5_playGossip 79 rfl) rfl (kinc_1 _) (by decide) (lo' := [(4, .int (xL4 + (1 : Int32))), (0, .ref pL0), (1, .int xL1), (2, .int x21), (3, .int x22)]) rfl ?_
              refine r_goto (dc_X5_playGossip 80 rfl) (tgt := 44) (by decide) ?_
              refine r_pick [1, 2, 3, 4, 0] (lo' := [(0, .ref pL0), (1, .int xL1), (2, .int x21), (3, .int x22), (4, .int (xL4 + (1 : Int32)))]) rfl ?_
              exact ih _ _ _ _ h
          · rw [if_neg c0] at h
            refine r_goto (dc_X5_playGossip 45 rfl) (tgt := 163) (by decide) ?_
            refine r_pick [2, 3, 4] (lo' := [(1, .int xL1), (2, .int xL2), (3, .int xL3)]) rfl ?_
            exact hk163 _ _ _ h
        · rw [if_pos c0] at h
          refine r_iload (dc_X5_playGossip 39 rfl) rfl ?_
          refine r_if_eq (dc_X5_playGossip 40 rfl) (tgt := 81) (by decide) (fun c0 => ?_) (fun c0 => ?_)
          · rw [if_pos c0] at h
            refine r_iload (dc_X5_playGossip 43 rfl) rfl ?_
            refine r_if_eq (dc_X5_playGossip 44 rfl) (tgt := 89) (by decide) (fun c0 => ?_) (fun c0 => ?_)
            · rw [if_pos c0] at h
              refine r_iconst (dc_X5_playGossip 46 rfl) kiconst_0 ?_
              refine r_istore (dc_X5_playGossip 47 rfl) (by decide) (lo' := [(6, .int (0 : Int32)), (5, .int x10), (0, .ref pL0), (1, .int xL1), (2, .int xL2), (3, .int xL3), (4, .int xL4)]) rfl ?_
              refine r_pick [2, 3, 4, 5, 6, 0] (lo' := [(0, .ref pL0), (1, .int xL1), (2, .int xL2), (3, .int xL3), (4, .int xL4), (6, .int (0 : Int32))]) rfl ?_
              refine l_X5_playGossip_L92 hl hd (hk157 := ?_) fu _ _ _ _ h
              · intro x34 x35 s36 h
                refine r_iinc (dc_X5_playGossip 79 rfl) rfl (kinc_1 _) (by decide) (lo' := [(4, .int (xL4 + (1 : Int32))), (0, .ref pL0), (1, .int xL1), (2, .int x34), (3, .int x35)]) rfl ?_
                refine r_goto (dc_X5_playGossip 80 rfl) (tgt := 44) (by decide) ?_
                refine r_pick [1, 2, 3, 4, 0] (lo' := [(0, .ref pL0), (1, .int xL1), (2, .int x34), (3, .int x35), (4, .int (xL4 + (1 : Int32)))]) rfl ?_
                exact ih _ _ _ _ h
            · rw [if_neg c0] at h
              refine r_goto (dc_X5_playGossip 45 rfl) (tgt := 163) (by decide) ?_
              refine r_pick [2, 3, 4] (lo' := [(1, .int xL1), (2, .int xL2), (3, .int xL3)]) rfl ?_
              exact hk163 _ _ _ h
          · rw [if_neg c0] at h
            refine r_iload (dc_X5_playGossip 41 rfl) rfl ?_
            cases h
            exact r_ireturn (dc_X5_playGossip 42 rfl) rfl
      · rw [if_pos c0] at h
        refine r_aload_n (dc_X5_playGossip 33 rfl) rfl rfl ?_
        obtain ⟨x37, e0, h⟩ := Option.bind_eq_some_iff.mp h
        refine r_callV (dc_X5_playGossip 34 rfl) mv_X5_allHaveAlike ml_RX5_187 (As := []) (t_X5_allHaveAlike (d := d - 1) hl (by omega) e0) (by omega) rfl (Nat.le_of_ble_eq_true rfl) ?_
        refine r_if_ne (dc_X5_playGossip 35 rfl) (tgt := 78) (by decide) (fun c0 => ?_) (fun c0 => ?_)
        · rw [if_neg c0] at h
          refine r_iload (dc_X5_playGossip 41 rfl) rfl ?_
          cases h
          exact r_ireturn (dc_X5_playGossip 42 rfl) rfl
        · rw [if_pos c0] at h
          refine r_iload_n (dc_X5_playGossip 36 rfl) rfl rfl ?_
          refine r_iconst (dc_X5_playGossip 37 rfl) kiconst_1 ?_
          refine r_icmp_ne (dc_X5_playGossip 38 rfl) (tgt := 81) (by decide) (fun c0 => ?_) (fun c0 => ?_)
          · rw [if_neg c0] at h
            refine r_iload (dc_X5_playGossip 43 rfl) rfl ?_
            refine r_if_eq (dc_X5_playGossip 44 rfl) (tgt := 89) (by decide) (fun c0 => ?_) (fun c0 => ?_)
            · rw [if_pos c0] at h
              refine r_iconst (dc_X5_playGossip 46 rfl) kiconst_0 ?_
              refine r_istore (dc_X5_playGossip 47 rfl) (by decide) (lo' := [(6, .int (0 : Int32)), (5, .int x10), (0, .ref pL0), (1, .int xL1), (2, .int xL2), (3, .int xL3), (4, .int xL4)]) rfl ?_
              refine r_pick [2, 3, 4, 5, 6, 0] (lo' := [(0, .ref pL0), (1, .int xL1), (2, .int xL2), (3, .int xL3), (4, .int xL4), (6, .int (0 : Int32))]) rfl ?_
              refine l_X5_playGossip_L92 hl hd (hk157 := ?_) fu _ _ _ _ h
              · intro x48 x49 s50 h
                refine r_iinc (dc_X5_playGossip 79 rfl) rfl (kinc_1 _) (by decide) (lo' := [(4, .int (xL4 + (1 : Int32))), (0, .ref pL0), (1, .int xL1), (2, .int x48), (3, .int x49)]) rfl ?_
                refine r_goto (dc_X5_playGossip 80 rfl) (tgt := 44) (by decide) ?_
                refine r_pick [1, 2, 3, 4, 0] (lo' := [(0, .ref pL0), (1, .int xL1), (2, .int x48), (3, .int x49), (4, .int (xL4 + (1 : Int32)))]) rfl ?_
                exact ih _ _ _ _ h
            · rw [if_neg c0] at h
              refine r_goto (dc_X5_playGossip 45 rfl) (tgt := 163) (by decide) ?_
              refine r_pick [2, 3, 4] (lo' := [(1, .int xL1), (2, .int xL2), (3, .int xL3)]) rfl ?_
              exact hk163 _ _ _ h
          · rw [if_pos c0] at h
            refine r_iload (dc_X5_playGossip 39 rfl) rfl ?_
            refine r_if_eq (dc_X5_playGossip 40 rfl) (tgt := 81) (by decide) (fun c0 => ?_) (fun c0 => ?_)
            · rw [if_pos c0] at h
              refine r_iload (dc_X5_playGossip 43 rfl) rfl ?_
              refine r_if_eq (dc_X5_playGossip 44 rfl) (tgt := 89) (by decide) (fun c0 => ?_) (fun c0 => ?_)
              · rw [if_pos c0] at h
                refine r_iconst (dc_X5_playGossip 46 rfl) kiconst_0 ?_
                refine r_istore (dc_X5_playGossip 47 rfl) (by decide) (lo' := [(6, .int (0 : Int32)), (5, .int x10), (0, .ref pL0), (1, .int xL1), (2, .int xL2), (3, .int xL3), (4, .int xL4)]) rfl ?_
                refine r_pick [2, 3, 4, 5, 6, 0] (lo' := [(0, .ref pL0), (1, .int xL1), (2, .int xL2), (3, .int xL3), (4, .int xL4), (6, .int (0 : Int32))]) rfl ?_
                refine l_X5_playGossip_L92 hl hd (hk157 := ?_) fu _ _ _ _ h
                · intro x61 x62 s63 h
                  refine r_iinc (dc_X5_playGossip 79 rfl) rfl (kinc_1 _) (by decide) (lo' := [(4, .int (xL4 + (1 : Int32))), (0, .ref pL0), (1, .int xL1), (2, .int x61), (3, .int x62)]) rfl ?_
                  refine r_goto (dc_X5_playGossip 80 rfl) (tgt := 44) (by decide) ?_
                  refine r_pick [1, 2, 3, 4, 0] (lo' := [(0, .ref pL0), (1, .int xL1), (2, .int x61), (3, .int x62), (4, .int (xL4 + (1 : Int32)))]) rfl ?_
                  exact ih _ _ _ _ h
              · rw [if_neg c0] at h
                refine r_goto (dc_X5_playGossip 45 rfl) (tgt := 163) (by decide) ?_
                refine r_pick [2, 3, 4] (lo' := [(1, .int xL1), (2, .int xL2), (3, .int xL3)]) rfl ?_
                exact hk163 _ _ _ h
            · rw [if_neg c0] at h
              refine r_iload (dc_X5_playGossip 41 rfl) rfl ?_
              cases h
              exact r_ireturn (dc_X5_playGossip 42 rfl) rfl
theorem t_X5_playGossip {G : Gx} {d : Nat} (hl : G.1.stackTraces = false) (hd : 4 ≤ d) {σ : Sto} {a0 : Nat} {xa1 : Int32} {r : (Int32 × Sto)} (h : F_X5_playGossip σ a0 xa1 = some r) : Mi G d m_X5_playGossip 5 a0 [.int xa1] σ (.inl (some (.int r.1))) r.2 := by
  rw [F_X5_playGossip] at h
  obtain ⟨hg, h⟩ := chk_some h
  refine ⟨J.toMt (lo := [(0, .ref a0), (1, .int xa1)]) pn_RX5 rfl hl (Nat.le_of_ble_eq_true rfl) rfl ?_, hg⟩
  refine r_iconst (dc_X5_playGossip 0 rfl) kiconst_0 ?_
  refine r_istore_n (dc_X5_playGossip 1 rfl) rfl (by decide) (lo' := [(2, .int (0 : Int32)), (0, .ref a0), (1, .int xa1)]) rfl ?_
  refine r_pick [1, 2, 0] (lo' := [(0, .ref a0), (1, .int xa1), (2, .int (0 : Int32))]) rfl ?_
  refine l_X5_playGossip_L2 hl hd (hk37 := ?_) fu _ _ h
  · intro s9 h
    refine r_iconst (dc_X5_playGossip 19 rfl) kiconst_0 ?_
    refine r_istore_n (dc_X5_playGossip 20 rfl) rfl (by decide) (lo' := [(2, .int (0 : Int32)), (0, .ref a0), (1, .int xa1)]) rfl ?_
    refine r_iconst (dc_X5_playGossip 21 rfl) kiconst_0 ?_
    refine r_istore_n (dc_X5_playGossip 22 rfl) rfl (by decide) (lo' := [(3, .int (0 : Int32)), (2, .int (0 : Int32)), (0, .ref a0), (1, .int xa1)]) rfl ?_
    refine r_iconst (dc_X5_playGossip 23 rfl) kiconst_0 ?_
    refine r_istore (dc_X5_playGossip 24 rfl) (by decide) (lo' := [(4, .int (0 : Int32)), (3, .int (0 : Int32)), (2, .int (0 : Int32)), (0, .ref a0), (1, .int xa1)]) rfl ?_
    refine r_pick [3, 4, 2, 1, 0] (lo' := [(0, .ref a0), (1, .int xa1), (2, .int (0 : Int32)), (3, .int (0 : Int32)), (4, .int (0 : Int32))]) rfl ?_
    refine l_X5_playGossip_L44 hl hd (hk163 := ?_) fu _ _ _ _ h
    · intro x64 x65 s66 h
      refine r_iload_n (dc_X5_playGossip 81 rfl) rfl rfl ?_
      refine r_iconst (dc_X5_playGossip 82 rfl) kiconst_1 ?_
      refine r_icmp_gt (dc_X5_playGossip 83 rfl) (tgt := 170) (by decide) (fun c0 => ?_) (fun c0 => ?_)
      · rw [if_pos c0] at h
        refine r_iload_n (dc_X5_playGossip 86 rfl) rfl rfl ?_
        refine r_iconst (dc_X5_playGossip 87 rfl) kiconst_2 ?_
        refine r_icmp_ne (dc_X5_playGossip 88 rfl) (tgt := 179) (by decide) (fun c0 => ?_) (fun c0 => ?_)
        · rw [if_neg c0] at h
          refine r_iload_n (dc_X5_playGossip 91 rfl) rfl rfl ?_
          refine r_iload_n (dc_X5_playGossip 92 rfl) rfl rfl ?_
          refine r_isub (dc_X5_playGossip 93 rfl) ?_
          cases h
          exact r_ireturn (dc_X5_playGossip 94 rfl) rfl
        · rw [if_pos c0] at h
          refine r_iload_n (dc_X5_playGossip 89 rfl) rfl rfl ?_
          refine r_goto (dc_X5_playGossip 90 rfl) (tgt := 182) (by decide) ?_
          cases h
          exact r_ireturn (dc_X5_playGossip 94 rfl) rfl
      · rw [if_neg c0] at h
        refine r_iconst (dc_X5_playGossip 84 rfl) kiconst_m1 ?_
        cases h
        exact r_ireturn (dc_X5_playGossip 85 rfl) rfl
theorem t_X5_reckonWith {G : Gx} {d : Nat} (hl : G.1.stackTraces = false) (hd : 5 ≤ d) {σ : Sto} {a0 : Nat} {xa1 : Int32} {xa2 : Int32} {r : (Int32 × Sto)} (h : F_X5_reckonWith σ a0 xa1 xa2 = some r) : Mi G d m_X5_reckonWith 5 a0 [.int xa1, .int xa2] σ (.inl (some (.int r.1))) r.2 := by
  rw [F_X5_reckonWith] at h
  obtain ⟨hg, h⟩ := chk_some h
  refine ⟨J.toMt (lo := [(0, .ref a0), (1, .int xa1), (2, .int xa2)]) pn_RX5 rfl hl (Nat.le_of_ble_eq_true rfl) rfl ?_, hg⟩
  refine r_aload_n (dc_X5_reckonWith 0 rfl) rfl rfl ?_
  obtain ⟨p1, e0, h⟩ := Option.bind_eq_some_iff.mp h
  refine r_getR (dc_X5_reckonWith 1 rfl) fl_RX5_40 e0 ?_
  obtain ⟨p2, e0, h⟩ := Option.bind_eq_some_iff.mp h
  refine r_getR (dc_X5_reckonWith 2 rfl) fl_RX5_66 e0 ?_
  refine r_iload_n (dc_X5_reckonWith 3 rfl) rfl rfl ?_
  obtain ⟨p3, e0, h⟩ := Option.bind_eq_some_iff.mp h
  refine r_aaldR (dc_X5_reckonWith 4 rfl) (kd := 4) rfl e0 ?_
  refine r_astore_n (dc_X5_reckonWith 5 rfl) rfl (by decide) (lo' := [(3, .ref p3), (0, .ref a0), (1, .int xa1), (2, .int xa2)]) rfl ?_
  refine r_aload_n (dc_X5_reckonWith 6 rfl) rfl rfl ?_
  obtain ⟨p4, e0, h⟩ := Option.bind_eq_some_iff.mp h
  refine r_getR (dc_X5_reckonWith 7 rfl) fl_RX5_40 e0 ?_
  obtain ⟨p5, e0, h⟩ := Option.bind_eq_some_iff.mp h
  refine r_getR (dc_X5_reckonWith 8 rfl) fl_RX5_66 e0 ?_
  refine r_iload_n (dc_X5_reckonWith 9 rfl) rfl rfl ?_
  refine r_aload_n (dc_X5_reckonWith 10 rfl) rfl rfl ?_
  obtain ⟨p6, e0, h⟩ := Option.bind_eq_some_iff.mp h
  refine r_getR (dc_X5_reckonWith 11 rfl) fl_RX5_11 e0 ?_
  refine r_iload_n (dc_X5_reckonWith 12 rfl) rfl rfl ?_
  obtain ⟨p7, e0, h⟩ := Option.bind_eq_some_iff.mp h
  refine r_aaldR (dc_X5_reckonWith 13 rfl) (kd := 4) rfl e0 ?_
  obtain ⟨s8, e0, h⟩ := Option.bind_eq_some_iff.mp h
  refine r_aast (dc_X5_reckonWith 14 rfl) (kd := 4) rfl rfl e0 ?_
  refine r_iload_n (dc_X5_reckonWith 15 rfl) rfl rfl ?_
  by_cases c0 : xa2 = (0 : Int32)
  · rw [if_pos c0] at h
    refine r_tsInE c0 (dc_X5_reckonWith 16 rfl) (tgt := 52) (off := 26) (by decide) (by decide) (by decide) (by decide) ?_
    refine r_aload_n (dc_X5_reckonWith 17 rfl) rfl rfl ?_
    obtain ⟨p9, e0, h⟩ := Option.bind_eq_some_iff.mp h
    refine r_getR (dc_X5_reckonWith 18 rfl) fl_RX5_11 e0 ?_
    refine r_iload_n (dc_X5_reckonWith 19 rfl) rfl rfl ?_
    obtain ⟨p10, e0, h⟩ := Option.bind_eq_some_iff.mp h
    refine r_aaldR (dc_X5_reckonWith 20 rfl) (kd := 4) rfl e0 ?_
    obtain ⟨p11, e0, h⟩ := Option.bind_eq_some_iff.mp h
    refine r_getR (dc_X5_reckonWith 21 rfl) fl_RX5_69 e0 ?_
    obtain ⟨x12, e0, h⟩ := Option.bind_eq_some_iff.mp h
    refine r_callV (dc_X5_reckonWith 22 rfl) mv_X1_size ml_RX5_107 (As := []) (t_X1_size (d := d - 1) hl (by omega) e0) (by omega) rfl (Nat.le_of_ble_eq_true rfl) ?_
    refine r_istore (dc_X5_reckonWith 23 rfl) (by decide) (lo' := [(4, .int x12), (3, .ref p3), (0, .ref a0), (1, .int xa1), (2, .int xa2)]) rfl ?_
    refine r_goto (dc_X5_reckonWith 24 rfl) (tgt := 95) (by decide) ?_
    refine r_aload_n (dc_X5_reckonWith 38 rfl) rfl rfl ?_
    obtain ⟨p13, e0, h⟩ := Option.bind_eq_some_iff.mp h
    refine r_getR (dc_X5_reckonWith 39 rfl) fl_RX5_40 e0 ?_
    obtain ⟨p14, e0, h⟩ := Option.bind_eq_some_iff.mp h
    refine r_getR (dc_X5_reckonWith 40 rfl) fl_RX5_66 e0 ?_
    refine r_iload_n (dc_X5_reckonWith 41 rfl) rfl rfl ?_
    refine r_aload_n (dc_X5_reckonWith 42 rfl) rfl rfl ?_
    obtain ⟨s15, e0, h⟩ := Option.bind_eq_some_iff.mp h
    refine r_aast (dc_X5_reckonWith 43 rfl) (kd := 4) rfl rfl e0 ?_
    refine r_iload (dc_X5_reckonWith 44 rfl) rfl ?_
    cases h
    exact r_ireturn (dc_X5_reckonWith 45 rfl) rfl
  rw [if_neg c0] at h
  by_cases c1 : xa2 = (1 : Int32)
  · rw [if_pos c1] at h
    refine r_tsInE c1 (dc_X5_reckonWith 16 rfl) (tgt := 69) (off := 43) (by decide) (by decide) (by decide) (by decide) ?_
    refine r_aload_n (dc_X5_reckonWith 25 rfl) rfl rfl ?_
    refine r_iload_n (dc_X5_reckonWith 26 rfl) rfl rfl ?_
    obtain ⟨x17, s16, e0, h⟩ := wb_some h
    refine r_callV (dc_X5_reckonWith 27 rfl) mv_X5_lostTo ml_RX5_137 (As := [.int xa1]) (t_X5_lostTo (d := d - 1) hl (by omega) e0) (by omega) rfl (Nat.le_of_ble_eq_true rfl) ?_
    refine r_istore (dc_X5_reckonWith 28 rfl) (by decide) (lo' := [(4, .int x17), (3, .ref p3), (0, .ref a0), (1, .int xa1), (2, .int xa2)]) rfl ?_
    refine r_goto (dc_X5_reckonWith 29 rfl) (tgt := 95) (by decide) ?_
    refine r_aload_n (dc_X5_reckonWith 38 rfl) rfl rfl ?_
    obtain ⟨p18, e0, h⟩ := Option.bind_eq_some_iff.mp h
    refine r_getR (dc_X5_reckonWith 39 rfl) fl_RX5_40 e0 ?_
    obtain ⟨p19, e0, h⟩ := Option.bind_eq_some_iff.mp h
    refine r_getR (dc_X5_reckonWith 40 rfl) fl_RX5_66 e0 ?_
    refine r_iload_n (dc_X5_reckonWith 41 rfl) rfl rfl ?_
    refine r_aload_n (dc_X5_reckonWith 42 rfl) rfl rfl ?_
    obtain ⟨s20, e0, h⟩ := Option.bind_eq_some_iff.mp h
    refine r_aast (dc_X5_reckonWith 43 rfl) (kd := 4) rfl rfl e0 ?_
    refine r_iload (dc_X5_reckonWith 44 rfl) rfl ?_
    cases h
    exact r_ireturn (dc_X5_reckonWith 45 rfl) rfl
  rw [if_neg c1] at h
  by_cases c2 : xa2 = (2 : Int32)
  · rw [if_pos c2] at h
    refine r_tsInE c2 (dc_X5_reckonWith 16 rfl) (tgt := 79) (off := 53) (by decide) (by decide) (by decide) (by decide) ?_
    refine r_aload_n (dc_X5_reckonWith 30 rfl) rfl rfl ?_
    refine r_iload_n (dc_X5_reckonWith 31 rfl) rfl rfl ?_
    obtain ⟨x22, s21, e0, h⟩ := wb_some h
    refine r_callV (dc_X5_reckonWith 32 rfl) mv_X5_overstatedAt ml_RX5_226 (As := [.int xa1]) (t_X5_overstatedAt (d := d - 1) hl (by omega) e0) (by omega) rfl (Nat.le_of_ble_eq_true rfl) ?_
    refine r_istore (dc_X5_reckonWith 33 rfl) (by decide) (lo' := [(4, .int x22), (3, .ref p3), (0, .ref a0), (1, .int xa1), (2, .int xa2)]) rfl ?_
    refine r_goto (dc_X5_reckonWith 34 rfl) (tgt := 95) (by decide) ?_
    refine r_aload_n (dc_X5_reckonWith 38 rfl) rfl rfl ?_
    obtain ⟨p23, e0, h⟩ := Option.bind_eq_some_iff.mp h
    refine r_getR (dc_X5_reckonWith 39 rfl) fl_RX5_40 e0 ?_
    obtain ⟨p24, e0, h⟩ := Option.bind_eq_some_iff.mp h
    refine r_getR (dc_X5_reckonWith 40 rfl) fl_RX5_66 e0 ?_
    refine r_iload_n (dc_X5_reckonWith 41 rfl) rfl rfl ?_
    refine r_aload_n (dc_X5_reckonWith 42 rfl) rfl rfl ?_
    obtain ⟨s25, e0, h⟩ := Option.bind_eq_some_iff.mp h
    refine r_aast (dc_X5_reckonWith 43 rfl) (kd := 4) rfl rfl e0 ?_
    refine r_iload (dc_X5_reckonWith 44 rfl) rfl ?_
    cases h
    exact r_ireturn (dc_X5_reckonWith 45 rfl) rfl
  rw [if_neg c2] at h
  refine r_tsOut (dc_X5_reckonWith 16 rfl) (tgt := 89) (ts_out (n := 3) (fun k hk => match k, hk with | 0, _ => c0 | 1, _ => c1 | 2, _ => c2 | k + 3, hk => absurd hk (by omega)) (by decide)) (by decide) ?_
  refine r_aload_n (dc_X5_reckonWith 35 rfl) rfl rfl ?_
  obtain ⟨x27, s26, e0, h⟩ := wb_some h
  refine r_callV (dc_X5_reckonWith 36 rfl) mv_X5_overstatedCells ml_RX5_229 (As := []) (t_X5_overstatedCells (d := d - 1) hl (by omega) e0) (by omega) rfl (Nat.le_of_ble_eq_true rfl) ?_
  refine r_istore (dc_X5_reckonWith 37 rfl) (by decide) (lo' := [(4, .int x27), (3, .ref p3), (0, .ref a0), (1, .int xa1), (2, .int xa2)]) rfl ?_
  refine r_aload_n (dc_X5_reckonWith 38 rfl) rfl rfl ?_
  obtain ⟨p28, e0, h⟩ := Option.bind_eq_some_iff.mp h
  refine r_getR (dc_X5_reckonWith 39 rfl) fl_RX5_40 e0 ?_
  obtain ⟨p29, e0, h⟩ := Option.bind_eq_some_iff.mp h
  refine r_getR (dc_X5_reckonWith 40 rfl) fl_RX5_66 e0 ?_
  refine r_iload_n (dc_X5_reckonWith 41 rfl) rfl rfl ?_
  refine r_aload_n (dc_X5_reckonWith 42 rfl) rfl rfl ?_
  obtain ⟨s30, e0, h⟩ := Option.bind_eq_some_iff.mp h
  refine r_aast (dc_X5_reckonWith 43 rfl) (kd := 4) rfl rfl e0 ?_
  refine r_iload (dc_X5_reckonWith 44 rfl) rfl ?_
  cases h
  exact r_ireturn (dc_X5_reckonWith 45 rfl) rfl
theorem t_X5_ifFallen {G : Gx} {d : Nat} (hl : G.1.stackTraces = false) (hd : 6 ≤ d) {σ : Sto} {a0 : Nat} {xa1 : Int32} {xa2 : Int32} {r : (Int32 × Sto)} (h : F_X5_ifFallen σ a0 xa1 xa2 = some r) : Mi G d m_X5_ifFallen 5 a0 [.int xa1, .int xa2] σ (.inl (some (.int r.1))) r.2 := by
  rw [F_X5_ifFallen] at h
  obtain ⟨hg, h⟩ := chk_some h
  refine ⟨J.toMt (lo := [(0, .ref a0), (1, .int xa1), (2, .int xa2)]) pn_RX5 rfl hl (Nat.le_of_ble_eq_true rfl) rfl ?_, hg⟩
  refine r_aload_n (dc_X5_ifFallen 0 rfl) rfl rfl ?_
  obtain ⟨p1, e0, h⟩ := Option.bind_eq_some_iff.mp h
  refine r_getR (dc_X5_ifFallen 1 rfl) fl_RX5_11 e0 ?_
  refine r_iload_n (dc_X5_ifFallen 2 rfl) rfl rfl ?_
  obtain ⟨p2, e0, h⟩ := Option.bind_eq_some_iff.mp h
  refine r_aaldR (dc_X5_ifFallen 3 rfl) (kd := 4) rfl e0 ?_
  refine r_aload_n (dc_X5_ifFallen 4 rfl) rfl rfl ?_
  obtain ⟨p3, e0, h⟩ := Option.bind_eq_some_iff.mp h
  refine r_getR (dc_X5_ifFallen 5 rfl) fl_RX5_40 e0 ?_
  obtain ⟨p4, e0, h⟩ := Option.bind_eq_some_iff.mp h
  refine r_getR (dc_X5_ifFallen 6 rfl) fl_RX5_210 e0 ?_
  refine r_iload_n (dc_X5_ifFallen 7 rfl) rfl rfl ?_
  obtain ⟨p5, e0, h⟩ := Option.bind_eq_some_iff.mp h
  refine r_aaldR (dc_X5_ifFallen 8 rfl) (kd := 4) rfl e0 ?_
  obtain ⟨s6, e0, h⟩ := Option.bind_eq_some_iff.mp h
  refine r_callV (dc_X5_ifFallen 9 rfl) mv_X6_copyOf ml_RX5_180 (As := [.ref p5]) (t_X6_copyOf (d := d - 1) hl (by omega) e0) (by omega) rfl (Nat.le_of_ble_eq_true rfl) ?_
  refine r_aload_n (dc_X5_ifFallen 10 rfl) rfl rfl ?_
  refine r_iload_n (dc_X5_ifFallen 11 rfl) rfl rfl ?_
  refine r_iload_n (dc_X5_ifFallen 12 rfl) rfl rfl ?_
  obtain ⟨x8, s7, e0, h⟩ := wb_some h
  refine r_callV (dc_X5_ifFallen 13 rfl) mv_X5_reckonWith ml_RX5_213 (As := [.int xa1, .int xa2]) (t_X5_reckonWith (d := d - 1) hl (by omega) e0) (by omega) rfl (Nat.le_of_ble_eq_true rfl) ?_
  cases h
  exact r_ireturn (dc_X5_ifFallen 14 rfl) rfl
theorem l_X6_adopt_L19 {G : Gx} {d : Nat} (hl : G.1.stackTraces = false) (hd : 3 ≤ d) {pL0 : Nat} {pL1 : Nat} {xL2 : Int32} {xL3 : Int32} {xL4 : Int32} {xL5 : Int32} {r : Sto} {k53 : Sto → Option Sto}
    (hk53 : ∀ (sL : Sto), k53 sL = some r → J G d m_X6_adopt 53 [(0, .ref pL0), (1, .ref pL1), (2, .int xL2), (3, .int xL3), (4, .int xL4)] [] sL (.inl none) r)
  : ∀ (f : Nat) (xL6 : Int32) (sL : Sto), F_X6_adopt_L19 pL0 pL1 xL3 xL5 f xL6 sL k53 = some r → J G d m_X6_adopt 19 [(0, .ref pL0), (1, .ref pL1), (2, .int xL2), (3, .int xL3), (4, .int xL4), (5, .int xL5), (6, .int xL6)] [] sL (.inl none) r := by
  intro f
  induction f with
  | zero => intro xL6 sL h; rw [F_X6_adopt_L19] at h; cases h
  | succ f ih =>
    intro xL6 sL h
    rw [F_X6_adopt_L19] at h
    refine r_iload (dc_X6_adopt 10 rfl) rfl ?_
    refine r_bipush (dc_X6_adopt 11 rfl) kbipush_120 ?_
    refine r_icmp_ge (dc_X6_adopt 12 rfl) (tgt := 53) (by decide) (fun c0 => ?_) (fun c0 => ?_)
    · rw [if_pos c0] at h
      refine r_pick [0, 1, 2, 3, 4] (lo' := [(0, .ref pL0), (1, .ref pL1), (2, .int xL2), (3, .int xL3), (4, .int xL4)]) rfl ?_
      exact hk53 _ h
    · rw [if_neg c0] at h
      refine r_aload_n (dc_X6_adopt 13 rfl) rfl rfl ?_
      obtain ⟨p5, e0, h⟩ := Option.bind_eq_some_iff.mp h
      refine r_getR (dc_X6_adopt 14 rfl) fl_RX6_18 e0 ?_
      refine r_iload (dc_X6_adopt 15 rfl) rfl ?_
      obtain ⟨x6, e0, h⟩ := Option.bind_eq_some_iff.mp h
      refine r_callV (dc_X6_adopt 16 rfl) mv_X1_holds ml_RX6_82 (As := [.int xL6]) (t_X1_holds (d := d - 1) hl (by omega) e0) (by omega) rfl (Nat.le_of_ble_eq_true rfl) ?_
      refine r_if_eq (dc_X6_adopt 17 rfl) (tgt := 47) (by decide) (fun c0 => ?_) (fun c0 => ?_)
      · rw [if_pos c0] at h
        refine r_iinc (dc_X6_adopt 23 rfl) rfl (kinc_1 _) (by decide) (lo' := [(6, .int (xL6 + (1 : Int32))), (0, .ref pL0), (1, .ref pL1), (2, .int xL2), (3, .int xL3), (4, .int xL4), (5, .int xL5)]) rfl ?_
        refine r_goto (dc_X6_adopt 24 rfl) (tgt := 19) (by decide) ?_
        refine r_pick [1, 2, 3, 4, 5, 6, 0] (lo' := [(0, .ref pL0), (1, .ref pL1), (2, .int xL2), (3, .int xL3), (4, .int xL4), (5, .int xL5), (6, .int (xL6 + (1 : Int32)))]) rfl ?_
        exact ih _ _ h
      · rw [if_neg c0] at h
        refine r_aload_n (dc_X6_adopt 18 rfl) rfl rfl ?_
        refine r_iload (dc_X6_adopt 19 rfl) rfl ?_
        refine r_iload (dc_X6_adopt 20 rfl) rfl ?_
        refine r_iload_n (dc_X6_adopt 21 rfl) rfl rfl ?_
        obtain ⟨s7, e0, h⟩ := Option.bind_eq_some_iff.mp h
        refine r_callV (dc_X6_adopt 22 rfl) mv_X6_gain ml_RX6_74 (As := [.int xL6, .int xL5, .int xL3]) (t_X6_gain (d := d - 1) hl (by omega) e0) (by omega) rfl (Nat.le_of_ble_eq_true rfl) ?_
        refine r_iinc (dc_X6_adopt 23 rfl) rfl (kinc_1 _) (by decide) (lo' := [(6, .int (xL6 + (1 : Int32))), (0, .ref pL0), (1, .ref pL1), (2, .int xL2), (3, .int xL3), (4, .int xL4), (5, .int xL5)]) rfl ?_
        refine r_goto (dc_X6_adopt 24 rfl) (tgt := 19) (by decide) ?_
        refine r_pick [1, 2, 3, 4, 5, 6, 0] (lo' := [(0, .ref pL0), (1, .ref pL1), (2, .int xL2), (3, .int xL3), (4, .int xL4), (5, .int xL5), (6, .int (xL6 + (1 : Int32)))]) rfl ?_
        exact ih _ _ h
