theorem l_X0_search_L54 {G : Gx} {d : Nat} (hl : G.1.stackTraces = false) (hd : 4 ≤ d) {rec : Sto → Nat → Int32 → Int32 → Option (Int32 × Sto)} (hrec : ∀ {σ : Sto} {a0 : Nat} {x y : Int32} {r : Int32 × Sto}, rec σ a0 x y = some r → Mt G (d - 1) m_X0_search [.ref a0, .int x, .int y] σ (.inl (some (.int r.1))) r.2) {pL0 : Nat} {xL1 : Int32} {xL2 : Int32} {xL4 : Int32} {r : (Int32 × Sto)} {k97 : Sto → Option (Int32 × Sto)}
    (hk97 : ∀ (sL : Sto), k97 sL = some r → J G d m_X0_search 97 [(0, .ref pL0), (1, .int xL1), (2, .int xL2), (4, .int xL4)] [] sL (.inl (some (.int r.1))) r.2)
  : ∀ (f : Nat) (xL5 : Int32) (sL : Sto), F_X0_search_L54 rec pL0 xL1 xL2 xL4 f xL5 sL k97 = some r → J G d m_X0_search 54 [(0, .ref pL0), (1, .int xL1), (2, .int xL2), (4, .int xL4), (5, .int xL5)] [] sL (.inl (some (.int r.1))) r.2 := by
  intro f
  induction f with
  | zero => intro xL5 sL h; rw [F_X0_search_L54] at h; cases h
  | succ f ih =>
    intro xL5 sL h
    rw [F_X0_search_L54] at h
    refine r_iload (dc_X0_search 32 rfl) rfl ?_
    refine r_aload_n (dc_X0_search 33 rfl) rfl rfl ?_
    obtain ⟨p4, e0, h⟩ := Option.bind_eq_some_iff.mp h
    refine r_getR (dc_X0_search 34 rfl) fl_RX0_21 e0 ?_
    obtain ⟨x5, e0, h⟩ := Option.bind_eq_some_iff.mp h
    refine r_getI (dc_X0_search 35 rfl) fl_RX0_29 e0 ?_
    refine r_icmp_ge (dc_X0_search 36 rfl) (tgt := 97) (by decide) (fun c0 => ?_) (fun c0 => ?_)
    · rw [if_pos c0] at h
      refine r_pick [0, 1, 2, 3] (lo' := [(0, .ref pL0), (1, .int xL1), (2, .int xL2), (4, .int xL4)]) rfl ?_
      exact hk97 _ h
    · rw [if_neg c0] at h
      refine r_aload_n (dc_X0_search 37 rfl) rfl rfl ?_
      refine r_iload_n (dc_X0_search 38 rfl) rfl rfl ?_
      refine r_iload (dc_X0_search 39 rfl) rfl ?_
      refine r_iload (dc_X0_search 40 rfl) rfl ?_
      obtain ⟨x7, s6, e0, h⟩ := wb_some h
      refine r_callV (dc_X0_search 41 rfl) mv_X0_tell ml_RX0_94 (As := [.int xL1, .int xL4, .int xL5]) (t_X0_tell (d := d - 1) hl (by omega) e0) (by omega) rfl (Nat.le_of_ble_eq_true rfl) ?_
      refine r_if_eq (dc_X0_search 42 rfl) (tgt := 91) (by decide) (fun c0 => ?_) (fun c0 => ?_)
      · rw [if_pos c0] at h
        refine r_iinc (dc_X0_search 52 rfl) rfl (kinc_1 _) (by decide) (lo' := [(5, .int (xL5 + (1 : Int32))), (0, .ref pL0), (1, .int xL1), (2, .int xL2), (4, .int xL4)]) rfl ?_
        refine r_goto (dc_X0_search 53 rfl) (tgt := 54) (by decide) ?_
        refine r_pick [1, 2, 3, 4, 0] (lo' := [(0, .ref pL0), (1, .int xL1), (2, .int xL2), (4, .int xL4), (5, .int (xL5 + (1 : Int32)))]) rfl ?_
        exact ih _ _ h
      · rw [if_neg c0] at h
        refine r_aload_n (dc_X0_search 43 rfl) rfl rfl ?_
        refine r_iload_n (dc_X0_search 44 rfl) rfl rfl ?_
        refine r_iconst (dc_X0_search 45 rfl) kiconst_1 ?_
        refine r_iadd (dc_X0_search 46 rfl) ?_
        refine r_iload_n (dc_X0_search 47 rfl) rfl rfl ?_
        obtain ⟨x9, s8, e0, h⟩ := wb_some h
        refine r_callS (dc_X0_search 48 rfl) ms_X0_search ml_RX0_45 (As := [.ref pL0, .int (xL1 + (1 : Int32)), .int xL2]) (hrec e0) (by omega) rfl (Nat.le_of_ble_eq_true rfl) ?_
        refine r_if_eq (dc_X0_search 49 rfl) (tgt := 91) (by decide) (fun c0 => ?_) (fun c0 => ?_)
        · rw [if_pos c0] at h
          refine r_iinc (dc_X0_search 52 rfl) rfl (kinc_1 _) (by decide) (lo' := [(5, .int (xL5 + (1 : Int32))), (0, .ref pL0), (1, .int xL1), (2, .int xL2), (4, .int xL4)]) rfl ?_
          refine r_goto (dc_X0_search 53 rfl) (tgt := 54) (by decide) ?_
          refine r_pick [1, 2, 3, 4, 0] (lo' := [(0, .ref pL0), (1, .int xL1), (2, .int xL2), (4, .int xL4), (5, .int (xL5 + (1 : Int32)))]) rfl ?_
          exact ih _ _ h
        · rw [if_neg c0] at h
          refine r_iconst (dc_X0_search 50 rfl) kiconst_1 ?_
          cases h
          exact r_zreturn (dc_X0_search 51 rfl) rfl (Or.inr rfl)
theorem l_X0_search_L39 {G : Gx} {d : Nat} (hl : G.1.stackTraces = false) (hd : 4 ≤ d) {rec : Sto → Nat → Int32 → Int32 → Option (Int32 × Sto)} (hrec : ∀ {σ : Sto} {a0 : Nat} {x y : Int32} {r : Int32 × Sto}, rec σ a0 x y = some r → Mt G (d - 1) m_X0_search [.ref a0, .int x, .int y] σ (.inl (some (.int r.1))) r.2) {pL0 : Nat} {xL1 : Int32} {xL2 : Int32} {r : (Int32 × Sto)} {k103 : Sto → Option (Int32 × Sto)}
    (hk103 : ∀ (sL : Sto), k103 sL = some r → J G d m_X0_search 103 [] [] sL (.inl (some (.int r.1))) r.2)
  : ∀ (f : Nat) (xL4 : Int32) (sL : Sto), F_X0_search_L39 rec pL0 xL1 xL2 f xL4 sL k103 = some r → J G d m_X0_search 39 [(0, .ref pL0), (1, .int xL1), (2, .int xL2), (4, .int xL4)] [] sL (.inl (some (.int r.1))) r.2 := by
  intro f
  induction f with
  | zero => intro xL4 sL h; rw [F_X0_search_L39] at h; cases h
  | succ f ih =>
    intro xL4 sL h
    rw [F_X0_search_L39] at h
    refine r_iload (dc_X0_search 25 rfl) rfl ?_
    refine r_aload_n (dc_X0_search 26 rfl) rfl rfl ?_
    obtain ⟨p2, e0, h⟩ := Option.bind_eq_some_iff.mp h
    refine r_getR (dc_X0_search 27 rfl) fl_RX0_21 e0 ?_
    obtain ⟨x3, e0, h⟩ := Option.bind_eq_some_iff.mp h
    refine r_getI (dc_X0_search 28 rfl) fl_RX0_29 e0 ?_
    refine r_icmp_ge (dc_X0_search 29 rfl) (tgt := 103) (by decide) (fun c0 => ?_) (fun c0 => ?_)
    · rw [if_pos c0] at h
      refine r_pick [] (lo' := []) rfl ?_
      exact hk103 _ h
    · rw [if_neg c0] at h
      refine r_iconst (dc_X0_search 30 rfl) kiconst_0 ?_
      refine r_istore (dc_X0_search 31 rfl) (by decide) (lo' := [(5, .int (0 : Int32)), (0, .ref pL0), (1, .int xL1), (2, .int xL2), (4, .int xL4)]) rfl ?_
      refine r_pick [1, 2, 3, 4, 0] (lo' := [(0, .ref pL0), (1, .int xL1), (2, .int xL2), (4, .int xL4), (5, .int (0 : Int32))]) rfl ?_
      refine l_X0_search_L54 hl hd hrec (hk97 := ?_) fu _ _ h
      · intro s10 h
        refine r_iinc (dc_X0_search 54 rfl) rfl (kinc_1 _) (by decide) (lo' := [(4, .int (xL4 + (1 : Int32))), (0, .ref pL0), (1, .int xL1), (2, .int xL2)]) rfl ?_
        refine r_goto (dc_X0_search 55 rfl) (tgt := 39) (by decide) ?_
        refine r_pick [1, 2, 3, 0] (lo' := [(0, .ref pL0), (1, .int xL1), (2, .int xL2), (4, .int (xL4 + (1 : Int32)))]) rfl ?_
        exact ih _ _ h
theorem t_X0_search_B {G : Gx} {d : Nat} (hl : G.1.stackTraces = false) (hd : 4 ≤ d) {rec : Sto → Nat → Int32 → Int32 → Option (Int32 × Sto)} (hrec : ∀ {σ : Sto} {a0 : Nat} {x y : Int32} {r : Int32 × Sto}, rec σ a0 x y = some r → Mt G (d - 1) m_X0_search [.ref a0, .int x, .int y] σ (.inl (some (.int r.1))) r.2) {σ : Sto} {pa0 : Nat} {xa1 : Int32} {xa2 : Int32} {r : (Int32 × Sto)} (h : F_X0_search_B rec σ pa0 xa1 xa2 = some r) : Mt G d m_X0_search [.ref pa0, .int xa1, .int xa2] σ (.inl (some (.int r.1))) r.2 := by
  rw [F_X0_search_B] at h
  refine J.toMt (lo := [(0, .ref pa0), (1, .int xa1), (2, .int xa2)]) pn_RX0 rfl hl (Nat.le_of_ble_eq_true rfl) rfl ?_
  refine r_aload_n (dc_X0_search 0 rfl) rfl rfl ?_
  refine r_iload_n (dc_X0_search 1 rfl) rfl rfl ?_
  obtain ⟨x1, e0, h⟩ := Option.bind_eq_some_iff.mp h
  refine r_callV (dc_X0_search 2 rfl) mv_X0_leastFrom ml_RX0_41 (As := [.int xa1]) (t_X0_leastFrom (d := d - 1) hl (by omega) e0) (by omega) rfl (Nat.le_of_ble_eq_true rfl) ?_
  refine r_istore_n (dc_X0_search 3 rfl) rfl (by decide) (lo' := [(3, .int x1), (0, .ref pa0), (1, .int xa1), (2, .int xa2)]) rfl ?_
  refine r_iload_n (dc_X0_search 4 rfl) rfl rfl ?_
  refine r_if_ne (dc_X0_search 5 rfl) (tgt := 21) (by decide) (fun c0 => ?_) (fun c0 => ?_)
  · rw [if_neg c0] at h
    refine r_iload_n (dc_X0_search 13 rfl) rfl rfl ?_
    refine r_bipush (dc_X0_search 14 rfl) kbipush_6 ?_
    refine r_icmp_ge (dc_X0_search 15 rfl) (tgt := 34) (by decide) (fun c0 => ?_) (fun c0 => ?_)
    · rw [if_pos c0] at h
      refine r_iconst (dc_X0_search 21 rfl) kiconst_0 ?_
      cases h
      exact r_zreturn (dc_X0_search 22 rfl) rfl (Or.inl rfl)
    · rw [if_neg c0] at h
      refine r_iload_n (dc_X0_search 16 rfl) rfl rfl ?_
      refine r_iload_n (dc_X0_search 17 rfl) rfl rfl ?_
      refine r_iadd (dc_X0_search 18 rfl) ?_
      refine r_iload_n (dc_X0_search 19 rfl) rfl rfl ?_
      refine r_icmp_le (dc_X0_search 20 rfl) (tgt := 36) (by decide) (fun c0 => ?_) (fun c0 => ?_)
      · rw [if_pos c0] at h
        refine r_iconst (dc_X0_search 23 rfl) kiconst_0 ?_
        refine r_istore (dc_X0_search 24 rfl) (by decide) (lo' := [(4, .int (0 : Int32)), (3, .int x1), (0, .ref pa0), (1, .int xa1), (2, .int xa2)]) rfl ?_
        refine r_pick [2, 3, 4, 0] (lo' := [(0, .ref pa0), (1, .int xa1), (2, .int xa2), (4, .int (0 : Int32))]) rfl ?_
        refine l_X0_search_L39 hl hd hrec (hk103 := ?_) fu _ _ h
        · intro s11 h
          refine r_iconst (dc_X0_search 56 rfl) kiconst_0 ?_
          cases h
          exact r_zreturn (dc_X0_search 57 rfl) rfl (Or.inl rfl)
      · rw [if_neg c0] at h
        refine r_iconst (dc_X0_search 21 rfl) kiconst_0 ?_
        cases h
        exact r_zreturn (dc_X0_search 22 rfl) rfl (Or.inl rfl)
  · rw [if_pos c0] at h
    refine r_iload_n (dc_X0_search 6 rfl) rfl rfl ?_
    refine r_iload_n (dc_X0_search 7 rfl) rfl rfl ?_
    refine r_icmp_ne (dc_X0_search 8 rfl) (tgt := 19) (by decide) (fun c0 => ?_) (fun c0 => ?_)
    · rw [if_neg c0] at h
      refine r_iconst (dc_X0_search 11 rfl) kiconst_0 ?_
      cases h
      exact r_zreturn (dc_X0_search 12 rfl) rfl (Or.inl rfl)
    · rw [if_pos c0] at h
      refine r_iconst (dc_X0_search 9 rfl) kiconst_1 ?_
      refine r_goto (dc_X0_search 10 rfl) (tgt := 20) (by decide) ?_
      cases h
      exact r_zreturn (dc_X0_search 12 rfl) rfl (Or.inr rfl)
theorem t_X0_search (n : Nat) : ∀ {G : Gx} {d : Nat} (_ : G.1.stackTraces = false) (_ : 4 + n ≤ d) {σ : Sto} {a0 : Nat} {x y : Int32} {r : Int32 × Sto}, F_X0_search n σ a0 x y = some r → Mt G d m_X0_search [.ref a0, .int x, .int y] σ (.inl (some (.int r.1))) r.2 := by
  induction n with
  | zero => intro G d hl hd σ a0 x y r h; rw [F_X0_search] at h; cases h
  | succ n ih =>
    intro G d hl hd σ a0 x y r h
    rw [F_X0_search] at h
    exact t_X0_search_B hl (by omega) (hrec := fun h9 => ih hl (by omega) h9) h
theorem l_X0_find_L35 {G : Gx} {d : Nat} (hl : G.1.stackTraces = false) (hd : 13 ≤ d) {pL0 : Nat} {r : Sto} {k69 : Sto → Option Sto}
    (hk69 : ∀ (sL : Sto), k69 sL = some r → J G d m_X0_find 69 [] [] sL (.inl none) r)
  : ∀ (f : Nat) (xL1 : Int32) (sL : Sto), F_X0_find_L35 pL0 f xL1 sL k69 = some r → J G d m_X0_find 35 [(0, .ref pL0), (1, .int xL1)] [] sL (.inl none) r := by
  intro f
  induction f with
  | zero => intro xL1 sL h; rw [F_X0_find_L35] at h; cases h
  | succ f ih =>
    intro xL1 sL h
    rw [F_X0_find_L35] at h
    refine r_iload_n (dc_X0_find 19 rfl) rfl rfl ?_
    refine r_bipush (dc_X0_find 20 rfl) kbipush_6 ?_
    refine r_icmp_gt (dc_X0_find 21 rfl) (tgt := 69) (by decide) (fun c0 => ?_) (fun c0 => ?_)
    · rw [if_pos c0] at h
      refine r_pick [] (lo' := []) rfl ?_
      exact hk69 _ h
    · rw [if_neg c0] at h
      refine r_aload_n (dc_X0_find 22 rfl) rfl rfl ?_
      obtain ⟨x7, e0, h⟩ := Option.bind_eq_some_iff.mp h
      refine r_getI (dc_X0_find 23 rfl) fl_RX0_25 e0 ?_
      refine r_iconst (dc_X0_find 24 rfl) kiconst_m1 ?_
      refine r_icmp_ne (dc_X0_find 25 rfl) (tgt := 69) (by decide) (fun c0 => ?_) (fun c0 => ?_)
      · rw [if_neg c0] at h
        refine r_pick [] (lo' := []) rfl ?_
        exact hk69 _ h
      · rw [if_pos c0] at h
        refine r_aload_n (dc_X0_find 26 rfl) rfl rfl ?_
        refine r_iconst (dc_X0_find 27 rfl) kiconst_0 ?_
        refine r_iload_n (dc_X0_find 28 rfl) rfl rfl ?_
        obtain ⟨x9, s8, e0, h⟩ := wb_some h
        refine r_callS (dc_X0_find 29 rfl) ms_X0_search ml_RX0_45 (As := [.ref pL0, .int (0 : Int32), .int xL1]) (t_X0_search 8 (d := d - 1) hl (by omega) e0) (by omega) rfl (Nat.le_of_ble_eq_true rfl) ?_
        refine r_if_eq (dc_X0_find 30 rfl) (tgt := 63) (by decide) (fun c0 => ?_) (fun c0 => ?_)
        · rw [if_pos c0] at h
          refine r_iinc (dc_X0_find 34 rfl) rfl (kinc_1 _) (by decide) (lo' := [(1, .int (xL1 + (1 : Int32))), (0, .ref pL0)]) rfl ?_
          refine r_goto (dc_X0_find 35 rfl) (tgt := 35) (by decide) ?_
          refine r_pick [1, 0] (lo' := [(0, .ref pL0), (1, .int (xL1 + (1 : Int32)))]) rfl ?_
          exact ih _ _ h
        · rw [if_neg c0] at h
          refine r_aload_n (dc_X0_find 31 rfl) rfl rfl ?_
          refine r_iload_n (dc_X0_find 32 rfl) rfl rfl ?_
          obtain ⟨s10, e0, h⟩ := Option.bind_eq_some_iff.mp h
          refine r_put (dc_X0_find 33 rfl) pl_RX0_25 rfl e0 ?_
          refine r_iinc (dc_X0_find 34 rfl) rfl (kinc_1 _) (by decide) (lo' := [(1, .int (xL1 + (1 : Int32))), (0, .ref pL0)]) rfl ?_
          refine r_goto (dc_X0_find 35 rfl) (tgt := 35) (by decide) ?_
          refine r_pick [1, 0] (lo' := [(0, .ref pL0), (1, .int (xL1 + (1 : Int32)))]) rfl ?_
          exact ih _ _ h
theorem t_X0_find {G : Gx} {d : Nat} (hl : G.1.stackTraces = false) (hd : 13 ≤ d) {σ : Sto} {a0 : Nat} {r : Sto} (h : F_X0_find σ a0 = some r) : Mi G d m_X0_find 0 a0 [] σ (.inl none) r := by
  rw [F_X0_find] at h
  obtain ⟨hg, h⟩ := chk_some h
  refine ⟨J.toMt (lo := [(0, .ref a0)]) pn_RX0 rfl hl (Nat.le_of_ble_eq_true rfl) rfl ?_, hg⟩
  refine r_aload_n (dc_X0_find 0 rfl) rfl rfl ?_
  refine r_iconst (dc_X0_find 1 rfl) kiconst_m1 ?_
  obtain ⟨s1, e0, h⟩ := Option.bind_eq_some_iff.mp h
  refine r_put (dc_X0_find 2 rfl) pl_RX0_25 rfl e0 ?_
  refine r_aload_n (dc_X0_find 3 rfl) rfl rfl ?_
  obtain ⟨p2, e0, h⟩ := Option.bind_eq_some_iff.mp h
  refine r_getR (dc_X0_find 4 rfl) fl_RX0_21 e0 ?_
  obtain ⟨x3, e0, h⟩ := Option.bind_eq_some_iff.mp h
  refine r_getI (dc_X0_find 5 rfl) fl_RX0_29 e0 ?_
  refine r_iconst (dc_X0_find 6 rfl) kiconst_4 ?_
  refine r_icmp_le (dc_X0_find 7 rfl) (tgt := 17) (by decide) (fun c0 => ?_) (fun c0 => ?_)
  · rw [if_pos c0] at h
    refine r_aload_n (dc_X0_find 9 rfl) rfl rfl ?_
    obtain ⟨s4, e0, h⟩ := Option.bind_eq_some_iff.mp h
    refine r_callV (dc_X0_find 10 rfl) mv_X0_findKinds ml_RX0_34 (As := []) (t_X0_findKinds (d := d - 1) hl (by omega) e0) (by omega) rfl (Nat.le_of_ble_eq_true rfl) ?_
    refine r_aload_n (dc_X0_find 11 rfl) rfl rfl ?_
    obtain ⟨x5, e0, h⟩ := Option.bind_eq_some_iff.mp h
    refine r_callV (dc_X0_find 12 rfl) mv_X0_eachPartHasAll ml_RX0_37 (As := []) (t_X0_eachPartHasAll (d := d - 1) hl (by omega) e0) (by omega) rfl (Nat.le_of_ble_eq_true rfl) ?_
    refine r_if_ne (dc_X0_find 13 rfl) (tgt := 29) (by decide) (fun c0 => ?_) (fun c0 => ?_)
    · rw [if_neg c0] at h
      refine r_aload_n (dc_X0_find 15 rfl) rfl rfl ?_
      refine r_iconst (dc_X0_find 16 rfl) kiconst_0 ?_
      obtain ⟨x6, e0, h⟩ := Option.bind_eq_some_iff.mp h
      refine r_callV (dc_X0_find 17 rfl) mv_X0_leastFrom ml_RX0_41 (As := [.int (0 : Int32)]) (t_X0_leastFrom (d := d - 1) hl (by omega) e0) (by omega) rfl (Nat.le_of_ble_eq_true rfl) ?_
      refine r_istore_n (dc_X0_find 18 rfl) rfl (by decide) (lo' := [(1, .int x6), (0, .ref a0)]) rfl ?_
      refine r_pick [1, 0] (lo' := [(0, .ref a0), (1, .int x6)]) rfl ?_
      refine l_X0_find_L35 hl hd (hk69 := ?_) fu _ _ h
      · intro s11 h
        cases h
        exact r_vreturn (dc_X0_find 36 rfl) rfl
    · rw [if_pos c0] at h
      cases h
      exact r_vreturn (dc_X0_find 14 rfl) rfl
  · rw [if_neg c0] at h
    cases h
    exact r_vreturn (dc_X0_find 8 rfl) rfl
theorem t_X9_fewest {G : Gx} {d : Nat} (hl : G.1.stackTraces = false) (hd : 14 ≤ d) {σ : Sto} {a0 : Nat} {xa1 : Int32} {r : (Int32 × Sto)} (h : F_X9_fewest σ a0 xa1 = some r) : Mi G d m_X9_fewest 9 a0 [.int xa1] σ (.inl (some (.int r.1))) r.2 := by
  rw [F_X9_fewest] at h
  obtain ⟨hg, h⟩ := chk_some h
  refine ⟨J.toMt (lo := [(0, .ref a0), (1, .int xa1)]) pn_RX9 rfl hl (Nat.le_of_ble_eq_true rfl) rfl ?_, hg⟩
  refine r_aload_n (dc_X9_fewest 0 rfl) rfl rfl ?_
  obtain ⟨p1, e0, h⟩ := Option.bind_eq_some_iff.mp h
  refine r_getR (dc_X9_fewest 1 rfl) fl_RX9_39 e0 ?_
  obtain ⟨s2, e0, h⟩ := Option.bind_eq_some_iff.mp h
  refine r_callV (dc_X9_fewest 2 rfl) mv_X0_find ml_RX9_363 (As := []) (t_X0_find (d := d - 1) hl (by omega) e0) (by omega) rfl (Nat.le_of_ble_eq_true rfl) ?_
  refine r_iload_n (dc_X9_fewest 3 rfl) rfl rfl ?_
  refine r_iconst (dc_X9_fewest 4 rfl) kiconst_m1 ?_
  refine r_icmp_ne (dc_X9_fewest 5 rfl) (tgt := 20) (by decide) (fun c0 => ?_) (fun c0 => ?_)
  · rw [if_neg c0] at h
    refine r_iload_n (dc_X9_fewest 10 rfl) rfl rfl ?_
    refine r_if_lt (dc_X9_fewest 11 rfl) (tgt := 35) (by decide) (fun c0 => ?_) (fun c0 => ?_)
    · rw [if_pos c0] at h
      refine r_iconst (dc_X9_fewest 17 rfl) kiconst_m1 ?_
      refine r_goto (dc_X9_fewest 18 rfl) (tgt := 47) (by decide) ?_
      cases h
      exact r_ireturn (dc_X9_fewest 23 rfl) rfl
    · rw [if_neg c0] at h
      refine r_iload_n (dc_X9_fewest 12 rfl) rfl rfl ?_
      refine r_aload_n (dc_X9_fewest 13 rfl) rfl rfl ?_
      obtain ⟨p3, e0, h⟩ := Option.bind_eq_some_iff.mp h
      refine r_getR (dc_X9_fewest 14 rfl) fl_RX9_39 e0 ?_
      obtain ⟨x4, e0, h⟩ := Option.bind_eq_some_iff.mp h
      refine r_getI (dc_X9_fewest 15 rfl) fl_RX9_366 e0 ?_
      refine r_icmp_lt (dc_X9_fewest 16 rfl) (tgt := 39) (by decide) (fun c0 => ?_) (fun c0 => ?_)
      · rw [if_pos c0] at h
        refine r_aload_n (dc_X9_fewest 19 rfl) rfl rfl ?_
        obtain ⟨p5, e0, h⟩ := Option.bind_eq_some_iff.mp h
        refine r_getR (dc_X9_fewest 20 rfl) fl_RX9_39 e0 ?_
        refine r_iload_n (dc_X9_fewest 21 rfl) rfl rfl ?_
        obtain ⟨x6, e0, h⟩ := Option.bind_eq_some_iff.mp h
        refine r_callV (dc_X9_fewest 22 rfl) mv_X0_told ml_RX9_369 (As := [.int xa1]) (t_X0_told (d := d - 1) hl (by omega) e0) (by omega) rfl (Nat.le_of_ble_eq_true rfl) ?_
        cases h
        exact r_ireturn (dc_X9_fewest 23 rfl) rfl
      · rw [if_neg c0] at h
        refine r_iconst (dc_X9_fewest 17 rfl) kiconst_m1 ?_
        refine r_goto (dc_X9_fewest 18 rfl) (tgt := 47) (by decide) ?_
        cases h
        exact r_ireturn (dc_X9_fewest 23 rfl) rfl
  · rw [if_pos c0] at h
    refine r_aload_n (dc_X9_fewest 6 rfl) rfl rfl ?_
    obtain ⟨p7, e0, h⟩ := Option.bind_eq_some_iff.mp h
    refine r_getR (dc_X9_fewest 7 rfl) fl_RX9_39 e0 ?_
    obtain ⟨x8, e0, h⟩ := Option.bind_eq_some_iff.mp h
    refine r_getI (dc_X9_fewest 8 rfl) fl_RX9_366 e0 ?_
    cases h
    exact r_ireturn (dc_X9_fewest 9 rfl) rfl
