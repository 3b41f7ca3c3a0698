theorem t_X9_cut {G : Gx} {d : Nat} (hl : G.1.stackTraces = false) (hd : 7 ≤ d) {σ : Sto} {a0 : Nat} {xa1 : Int32} {xa2 : Int32} {xa3 : Int32} {r : ((Int32 ⊕ String) × Sto)} (h : F_X9_cut σ a0 xa1 xa2 xa3 = some r) : Mi G d m_X9_cut 9 a0 [.int xa1, .int xa2, .int xa3] σ (toI r.1) r.2 := by
  rw [F_X9_cut] at h
  obtain ⟨hg, h⟩ := chk_some h
  refine ⟨J.toMt (lo := [(0, .ref a0), (1, .int xa1), (2, .int xa2), (3, .int xa3)]) pn_RX9 rfl hl (Nat.le_of_ble_eq_true rfl) rfl ?_, hg⟩
  refine r_aload_n (dc_X9_cut 0 rfl) rfl rfl ?_
  refine r_iload_n (dc_X9_cut 1 rfl) rfl rfl ?_
  refine r_iload_n (dc_X9_cut 2 rfl) rfl rfl ?_
  rcases tb_some h with ⟨u0, s1, e0, h⟩ | ⟨E0, s1, e0, h⟩
  rotate_left
  · subst h
    exact r_callVX (dc_X9_cut 3 rfl) mv_X9_needTwoSites ml_RX9_117 (As := [.int xa1, .int xa2]) (t_X9_needTwoSites (d := d - 1) hl (by omega) e0) (by omega) rfl (Nat.le_of_ble_eq_true rfl) rfl
  refine r_callV (dc_X9_cut 3 rfl) mv_X9_needTwoSites ml_RX9_117 (As := [.int xa1, .int xa2]) (t_X9_needTwoSites (d := d - 1) hl (by omega) e0) (by omega) rfl (Nat.le_of_ble_eq_true rfl) ?_
  refine r_aload_n (dc_X9_cut 4 rfl) rfl rfl ?_
  obtain ⟨p2, e0, h⟩ := Option.bind_eq_some_iff.mp h
  refine r_getR (dc_X9_cut 5 rfl) fl_RX9_12 e0 ?_
  refine r_iload_n (dc_X9_cut 6 rfl) rfl rfl ?_
  refine r_iload_n (dc_X9_cut 7 rfl) rfl rfl ?_
  obtain ⟨x3, e0, h⟩ := Option.bind_eq_some_iff.mp h
  refine r_callV (dc_X9_cut 8 rfl) mv_X8_isCut ml_RX9_137 (As := [.int xa1, .int xa2]) (t_X8_isCut (d := d - 1) hl (by omega) e0) (by omega) rfl (Nat.le_of_ble_eq_true rfl) ?_
  refine r_iload_n (dc_X9_cut 9 rfl) rfl rfl ?_
  refine r_icmp_ne (dc_X9_cut 10 rfl) (tgt := 21) (by decide) (fun c0 => ?_) (fun c0 => ?_)
  · rw [if_neg c0] at h
    refine r_aload_n (dc_X9_cut 13 rfl) rfl rfl ?_
    obtain ⟨p4, e0, h⟩ := Option.bind_eq_some_iff.mp h
    refine r_getR (dc_X9_cut 14 rfl) fl_RX9_12 e0 ?_
    refine r_iload_n (dc_X9_cut 15 rfl) rfl rfl ?_
    refine r_iload_n (dc_X9_cut 16 rfl) rfl rfl ?_
    refine r_iload_n (dc_X9_cut 17 rfl) rfl rfl ?_
    obtain ⟨s5, e0, h⟩ := Option.bind_eq_some_iff.mp h
    refine r_callV (dc_X9_cut 18 rfl) mv_X8_setLink ml_RX9_217 (As := [.int xa1, .int xa2, .int xa3]) (t_X8_setLink (d := d - 1) hl (by omega) e0) (by omega) rfl (Nat.le_of_ble_eq_true rfl) ?_
    refine r_aload_n (dc_X9_cut 19 rfl) rfl rfl ?_
    refine r_bipush (dc_X9_cut 20 rfl) kbipush_9 ?_
    refine r_iload_n (dc_X9_cut 21 rfl) rfl rfl ?_
    refine r_iconst (dc_X9_cut 22 rfl) kiconst_1 ?_
    obtain ⟨x7, s6, e0, h⟩ := wb_some h
    refine r_callV (dc_X9_cut 23 rfl) mv_X9_traced ml_RX9_80 (As := [.int (9 : Int32), .int xa1, .int (1 : Int32)]) (t_X9_traced (d := d - 1) hl (by omega) e0) (by omega) rfl (Nat.le_of_ble_eq_true rfl) ?_
    refine r_pop (dc_X9_cut 24 rfl) rfl ?_
    refine r_iconst (dc_X9_cut 25 rfl) kiconst_1 ?_
    cases h
    exact r_zreturn (dc_X9_cut 26 rfl) rfl (Or.inr rfl)
  · rw [if_pos c0] at h
    refine r_iconst (dc_X9_cut 11 rfl) kiconst_0 ?_
    cases h
    exact r_zreturn (dc_X9_cut 12 rfl) rfl (Or.inl rfl)
theorem t_X9_view {G : Gx} {d : Nat} (hl : G.1.stackTraces = false) (hd : 7 ≤ d) {σ : Sto} {a0 : Nat} {xa1 : Int32} {xa2 : Int32} {xa3 : Int32} {r : ((Int32 ⊕ String) × Sto)} (h : F_X9_view σ a0 xa1 xa2 xa3 = some r) : Mi G d m_X9_view 9 a0 [.int xa1, .int xa2, .int xa3] σ (toI r.1) r.2 := by
  rw [F_X9_view] at h
  obtain ⟨hg, h⟩ := chk_some h
  refine ⟨J.toMt (lo := [(0, .ref a0), (1, .int xa1), (2, .int xa2), (3, .int xa3)]) pn_RX9 rfl hl (Nat.le_of_ble_eq_true rfl) rfl ?_, hg⟩
  refine r_aload_n (dc_X9_view 0 rfl) rfl rfl ?_
  refine r_iload_n (dc_X9_view 1 rfl) rfl rfl ?_
  rcases tb_some h with ⟨u0, s1, e0, h⟩ | ⟨E0, s1, e0, h⟩
  rotate_left
  · subst h
    exact r_callVX (dc_X9_view 2 rfl) mv_X9_needSite ml_RX9_67 (As := [.int xa1]) (t_X9_needSite (d := d - 1) hl (by omega) e0) (by omega) rfl (Nat.le_of_ble_eq_true rfl) rfl
  refine r_callV (dc_X9_view 2 rfl) mv_X9_needSite ml_RX9_67 (As := [.int xa1]) (t_X9_needSite (d := d - 1) hl (by omega) e0) (by omega) rfl (Nat.le_of_ble_eq_true rfl) ?_
  refine r_aload_n (dc_X9_view 3 rfl) rfl rfl ?_
  obtain ⟨p2, e0, h⟩ := Option.bind_eq_some_iff.mp h
  refine r_getR (dc_X9_view 4 rfl) fl_RX9_12 e0 ?_
  obtain ⟨p3, e0, h⟩ := Option.bind_eq_some_iff.mp h
  refine r_getR (dc_X9_view 5 rfl) fl_RX9_94 e0 ?_
  refine r_iload_n (dc_X9_view 6 rfl) rfl rfl ?_
  obtain ⟨p4, e0, h⟩ := Option.bind_eq_some_iff.mp h
  refine r_aaldR (dc_X9_view 7 rfl) (kd := 4) rfl e0 ?_
  obtain ⟨p5, e0, h⟩ := Option.bind_eq_some_iff.mp h
  refine r_getR (dc_X9_view 8 rfl) fl_RX9_98 e0 ?_
  refine r_iload_n (dc_X9_view 9 rfl) rfl rfl ?_
  obtain ⟨x6, e0, h⟩ := Option.bind_eq_some_iff.mp h
  refine r_callV (dc_X9_view 10 rfl) mv_X1_nth ml_RX9_221 (As := [.int xa2]) (t_X1_nth (d := d - 1) hl (by omega) e0) (by omega) rfl (Nat.le_of_ble_eq_true rfl) ?_
  refine r_istore (dc_X9_view 11 rfl) (by decide) (lo' := [(4, .int x6), (0, .ref a0), (1, .int xa1), (2, .int xa2), (3, .int xa3)]) rfl ?_
  refine r_iload (dc_X9_view 12 rfl) rfl ?_
  refine r_iconst (dc_X9_view 13 rfl) kiconst_m1 ?_
  refine r_icmp_ne (dc_X9_view 14 rfl) (tgt := 39) (by decide) (fun c0 => ?_) (fun c0 => ?_)
  · rw [if_neg c0] at h
    refine r_aload_n (dc_X9_view 20 rfl) rfl rfl ?_
    refine r_iload_n (dc_X9_view 21 rfl) rfl rfl ?_
    refine r_iconst (dc_X9_view 22 rfl) kiconst_2 ?_
    rcases tb_some h with ⟨u0, s7, e0, h⟩ | ⟨E0, s7, e0, h⟩
    rotate_left
    · subst h
      exact r_callVX (dc_X9_view 23 rfl) mv_X9_needWhat ml_RX9_166 (As := [.int xa3, .int (2 : Int32)]) (t_X9_needWhat (d := d - 1) hl (by omega) e0) (by omega) rfl (Nat.le_of_ble_eq_true rfl) rfl
    refine r_callV (dc_X9_view 23 rfl) mv_X9_needWhat ml_RX9_166 (As := [.int xa3, .int (2 : Int32)]) (t_X9_needWhat (d := d - 1) hl (by omega) e0) (by omega) rfl (Nat.le_of_ble_eq_true rfl) ?_
    refine r_iload_n (dc_X9_view 24 rfl) rfl rfl ?_
    refine r_if_ne (dc_X9_view 25 rfl) (tgt := 54) (by decide) (fun c0 => ?_) (fun c0 => ?_)
    · rw [if_neg c0] at h
      refine r_aload_n (dc_X9_view 28 rfl) rfl rfl ?_
      obtain ⟨p8, e0, h⟩ := Option.bind_eq_some_iff.mp h
      refine r_getR (dc_X9_view 29 rfl) fl_RX9_12 e0 ?_
      obtain ⟨p9, e0, h⟩ := Option.bind_eq_some_iff.mp h
      refine r_getR (dc_X9_view 30 rfl) fl_RX9_84 e0 ?_
      obtain ⟨p10, e0, h⟩ := Option.bind_eq_some_iff.mp h
      refine r_getR (dc_X9_view 31 rfl) fl_RX9_226 e0 ?_
      refine r_iload (dc_X9_view 32 rfl) rfl ?_
      obtain ⟨x11, e0, h⟩ := Option.bind_eq_some_iff.mp h
      refine r_iald (dc_X9_view 33 rfl) e0 ?_
      cases h
      exact r_ireturn (dc_X9_view 34 rfl) rfl
    · rw [if_pos c0] at h
      refine r_iload (dc_X9_view 26 rfl) rfl ?_
      refine r_goto (dc_X9_view 27 rfl) (tgt := 67) (by decide) ?_
      cases h
      exact r_ireturn (dc_X9_view 34 rfl) rfl
  · rw [if_pos c0] at h
    cases h
    exact r_throwN tl_RX9_109_113 (str_in 16 rfl) (dc_X9_view 15 rfl) (dc_X9_view 16 rfl) (dc_X9_view 17 rfl) (dc_X9_view 18 rfl) (dc_X9_view 19 rfl) rfl (by omega) (Nat.le_of_ble_eq_true rfl)
theorem l_X9_named_L28 {G : Gx} {d : Nat} (hl : G.1.stackTraces = false) (hd : 7 ≤ d) {sL : Sto} {pL0 : Nat} {xL1 : Int32} {xL2 : Int32} {xL3 : Int32} {r : ((Int32 ⊕ String) × Sto)} {k108 : Int32 → Int32 → Int32 → Option ((Int32 ⊕ String) × Sto)}
    (hk108 : ∀ (xL4 : Int32) (xL5 : Int32) (xL6 : Int32), k108 xL4 xL5 xL6 = some r → J G d m_X9_named 108 [(3, .int xL3), (4, .int xL4), (5, .int xL5), (6, .int xL6)] [] sL (toI r.1) r.2)
  : ∀ (f : Nat) (xL4 : Int32) (xL5 : Int32) (xL6 : Int32) (xL7 : Int32), F_X9_named_L28 sL pL0 xL1 xL2 f xL4 xL5 xL6 xL7 k108 = some r → J G d m_X9_named 28 [(0, .ref pL0), (1, .int xL1), (2, .int xL2), (3, .int xL3), (4, .int xL4), (5, .int xL5), (6, .int xL6), (7, .int xL7)] [] sL (toI r.1) r.2 := by
  intro f
  induction f with
  | zero => intro xL4 xL5 xL6 xL7 h; rw [F_X9_named_L28] at h; cases h
  | succ f ih =>
    intro xL4 xL5 xL6 xL7 h
    rw [F_X9_named_L28] at h
    refine r_iload (dc_X9_named 18 rfl) rfl ?_
    refine r_aload_n (dc_X9_named 19 rfl) rfl rfl ?_
    obtain ⟨p4, e0, h⟩ := Option.bind_eq_some_iff.mp h
    refine r_getR (dc_X9_named 20 rfl) fl_RX9_12 e0 ?_
    obtain ⟨p5, e0, h⟩ := Option.bind_eq_some_iff.mp h
    refine r_getR (dc_X9_named 21 rfl) fl_RX9_84 e0 ?_
    obtain ⟨x6, e0, h⟩ := Option.bind_eq_some_iff.mp h
    refine r_getI (dc_X9_named 22 rfl) fl_RX9_205 e0 ?_
    refine r_icmp_ge (dc_X9_named 23 rfl) (tgt := 108) (by decide) (fun c0 => ?_) (fun c0 => ?_)
    · rw [if_pos c0] at h
      refine r_pick [3, 4, 5, 6] (lo' := [(3, .int xL3), (4, .int xL4), (5, .int xL5), (6, .int xL6)]) rfl ?_
      exact hk108 _ _ _ h
    · rw [if_neg c0] at h
      refine r_aload_n (dc_X9_named 24 rfl) rfl rfl ?_
      obtain ⟨p7, e0, h⟩ := Option.bind_eq_some_iff.mp h
      refine r_getR (dc_X9_named 25 rfl) fl_RX9_12 e0 ?_
      obtain ⟨p8, e0, h⟩ := Option.bind_eq_some_iff.mp h
      refine r_getR (dc_X9_named 26 rfl) fl_RX9_94 e0 ?_
      refine r_iload_n (dc_X9_named 27 rfl) rfl rfl ?_
      obtain ⟨p9, e0, h⟩ := Option.bind_eq_some_iff.mp h
      refine r_aaldR (dc_X9_named 28 rfl) (kd := 4) rfl e0 ?_
      obtain ⟨p10, e0, h⟩ := Option.bind_eq_some_iff.mp h
      refine r_getR (dc_X9_named 29 rfl) fl_RX9_98 e0 ?_
      refine r_iload (dc_X9_named 30 rfl) rfl ?_
      obtain ⟨x11, e0, h⟩ := Option.bind_eq_some_iff.mp h
      refine r_callV (dc_X9_named 31 rfl) mv_X1_holds ml_RX9_104 (As := [.int xL7]) (t_X1_holds (d := d - 1) hl (by omega) e0) (by omega) rfl (Nat.le_of_ble_eq_true rfl) ?_
      refine r_if_eq (dc_X9_named 32 rfl) (tgt := 102) (by decide) (fun c0 => ?_) (fun c0 => ?_)
      · rw [if_pos c0] at h
        refine r_iinc (dc_X9_named 51 rfl) rfl (kinc_1 _) (by decide) (lo' := [(7, .int (xL7 + (1 : Int32))), (0, .ref pL0), (1, .int xL1), (2, .int xL2), (3, .int xL3), (4, .int xL4), (5, .int xL5), (6, .int xL6)]) rfl ?_
        refine r_goto (dc_X9_named 52 rfl) (tgt := 28) (by decide) ?_
        refine r_pick [1, 2, 3, 4, 5, 6, 7, 0] (lo' := [(0, .ref pL0), (1, .int xL1), (2, .int xL2), (3, .int xL3), (4, .int xL4), (5, .int xL5), (6, .int xL6), (7, .int (xL7 + (1 : Int32)))]) rfl ?_
        exact ih _ _ _ _ h
      · rw [if_neg c0] at h
        refine r_aload_n (dc_X9_named 33 rfl) rfl rfl ?_
        obtain ⟨p12, e0, h⟩ := Option.bind_eq_some_iff.mp h
        refine r_getR (dc_X9_named 34 rfl) fl_RX9_12 e0 ?_
        obtain ⟨p13, e0, h⟩ := Option.bind_eq_some_iff.mp h
        refine r_getR (dc_X9_named 35 rfl) fl_RX9_84 e0 ?_
        obtain ⟨p14, e0, h⟩ := Option.bind_eq_some_iff.mp h
        refine r_getR (dc_X9_named 36 rfl) fl_RX9_226 e0 ?_
        refine r_iload (dc_X9_named 37 rfl) rfl ?_
        obtain ⟨x15, e0, h⟩ := Option.bind_eq_some_iff.mp h
        refine r_iald (dc_X9_named 38 rfl) e0 ?_
        refine r_iload_n (dc_X9_named 39 rfl) rfl rfl ?_
        refine r_icmp_ne (dc_X9_named 40 rfl) (tgt := 102) (by decide) (fun c0 => ?_) (fun c0 => ?_)
        · rw [if_neg c0] at h
          refine r_iinc (dc_X9_named 51 rfl) rfl (kinc_1 _) (by decide) (lo' := [(7, .int (xL7 + (1 : Int32))), (0, .ref pL0), (1, .int xL1), (2, .int xL2), (3, .int xL3), (4, .int xL4), (5, .int xL5), (6, .int xL6)]) rfl ?_
          refine r_goto (dc_X9_named 52 rfl) (tgt := 28) (by decide) ?_
          refine r_pick [1, 2, 3, 4, 5, 6, 7, 0] (lo' := [(0, .ref pL0), (1, .int xL1), (2, .int xL2), (3, .int xL3), (4, .int xL4), (5, .int xL5), (6, .int xL6), (7, .int (xL7 + (1 : Int32)))]) rfl ?_
          exact ih _ _ _ _ h
        · rw [if_pos c0] at h
          refine r_iinc (dc_X9_named 41 rfl) rfl (kinc_1 _) (by decide) (lo' := [(4, .int (xL4 + (1 : Int32))), (0, .ref pL0), (1, .int xL1), (2, .int xL2), (3, .int xL3), (5, .int xL5), (6, .int xL6), (7, .int xL7)]) rfl ?_
          refine r_iload (dc_X9_named 42 rfl) rfl ?_
          refine r_iconst (dc_X9_named 43 rfl) kiconst_m1 ?_
          refine jn_elim h (Q := fun (j : Int32 → Option ((Int32 ⊕ String) × Sto)) => ∀ (x17 : Int32), j x17 = some r → J G d m_X9_named 96 [(0, .ref pL0), (1, .int xL1), (2, .int xL2), (3, .int xL3), (4, .int (xL4 + (1 : Int32))), (7, .int xL7)] [.int x17] sL (toI r.1) r.2) ?_ (fun j16 hj16 h => ?_)
          · intro x17 h
            refine r_istore (dc_X9_named 48 rfl) (by decide) (lo' := [(5, .int x17), (0, .ref pL0), (1, .int xL1), (2, .int xL2), (3, .int xL3), (4, .int (xL4 + (1 : Int32))), (7, .int xL7)]) rfl ?_
            refine r_iload (dc_X9_named 49 rfl) rfl ?_
            refine r_istore (dc_X9_named 50 rfl) (by decide) (lo' := [(6, .int xL7), (5, .int x17), (0, .ref pL0), (1, .int xL1), (2, .int xL2), (3, .int xL3), (4, .int (xL4 + (1 : Int32))), (7, .int xL7)]) rfl ?_
            refine r_iinc (dc_X9_named 51 rfl) rfl (kinc_1 _) (by decide) (lo' := [(7, .int (xL7 + (1 : Int32))), (6, .int xL7), (5, .int x17), (0, .ref pL0), (1, .int xL1), (2, .int xL2), (3, .int xL3), (4, .int (xL4 + (1 : Int32)))]) rfl ?_
            refine r_goto (dc_X9_named 52 rfl) (tgt := 28) (by decide) ?_
            refine r_pick [3, 4, 5, 6, 7, 2, 1, 0] (lo' := [(0, .ref pL0), (1, .int xL1), (2, .int xL2), (3, .int xL3), (4, .int (xL4 + (1 : Int32))), (5, .int x17), (6, .int xL7), (7, .int (xL7 + (1 : Int32)))]) rfl ?_
            exact ih _ _ _ _ h
          refine r_icmp_ne (dc_X9_named 44 rfl) (tgt := 94) (by decide) (fun c0 => ?_) (fun c0 => ?_)
          · rw [if_neg c0] at h
            refine r_iload (dc_X9_named 47 rfl) rfl ?_
            refine r_pick [1, 2, 3, 4, 0, 7] (lo' := [(0, .ref pL0), (1, .int xL1), (2, .int xL2), (3, .int xL3), (4, .int (xL4 + (1 : Int32))), (7, .int xL7)]) rfl ?_
            exact hj16 _ h
          · rw [if_pos c0] at h
            refine r_iload (dc_X9_named 45 rfl) rfl ?_
            refine r_goto (dc_X9_named 46 rfl) (tgt := 96) (by decide) ?_
            refine r_pick [1, 2, 3, 4, 0, 7] (lo' := [(0, .ref pL0), (1, .int xL1), (2, .int xL2), (3, .int xL3), (4, .int (xL4 + (1 : Int32))), (7, .int xL7)]) rfl ?_
            exact hj16 _ h
theorem t_X9_named {G : Gx} {d : Nat} (hl : G.1.stackTraces = false) (hd : 7 ≤ d) {σ : Sto} {a0 : Nat} {xa1 : Int32} {xa2 : Int32} {xa3 : Int32} {r : ((Int32 ⊕ String) × Sto)} (h : F_X9_named σ a0 xa1 xa2 xa3 = some r) : Mi G d m_X9_named 9 a0 [.int xa1, .int xa2, .int xa3] σ (toI r.1) r.2 := by
  rw [F_X9_named] at h
  obtain ⟨hg, h⟩ := chk_some h
  refine ⟨J.toMt (lo := [(0, .ref a0), (1, .int xa1), (2, .int xa2), (3, .int xa3)]) pn_RX9 rfl hl (Nat.le_of_ble_eq_true rfl) rfl ?_, hg⟩
  refine r_aload_n (dc_X9_named 0 rfl) rfl rfl ?_
  refine r_iload_n (dc_X9_named 1 rfl) rfl rfl ?_
  rcases tb_some h with ⟨u0, s1, e0, h⟩ | ⟨E0, s1, e0, h⟩
  rotate_left
  · subst h
    exact r_callVX (dc_X9_named 2 rfl) mv_X9_needSite ml_RX9_67 (As := [.int xa1]) (t_X9_needSite (d := d - 1) hl (by omega) e0) (by omega) rfl (Nat.le_of_ble_eq_true rfl) rfl
  refine r_callV (dc_X9_named 2 rfl) mv_X9_needSite ml_RX9_67 (As := [.int xa1]) (t_X9_needSite (d := d - 1) hl (by omega) e0) (by omega) rfl (Nat.le_of_ble_eq_true rfl) ?_
  refine r_aload_n (dc_X9_named 3 rfl) rfl rfl ?_
  refine r_iload_n (dc_X9_named 4 rfl) rfl rfl ?_
  rcases tb_some h with ⟨u0, s2, e0, h⟩ | ⟨E0, s2, e0, h⟩
  rotate_left
  · subst h
    exact r_callVX (dc_X9_named 5 rfl) mv_X9_needName ml_RX9_73 (As := [.int xa2]) (t_X9_needName (d := d - 1) hl (by omega) e0) (by omega) rfl (Nat.le_of_ble_eq_true rfl) rfl
  refine r_callV (dc_X9_named 5 rfl) mv_X9_needName ml_RX9_73 (As := [.int xa2]) (t_X9_needName (d := d - 1) hl (by omega) e0) (by omega) rfl (Nat.le_of_ble_eq_true rfl) ?_
  refine r_aload_n (dc_X9_named 6 rfl) rfl rfl ?_
  refine r_iload_n (dc_X9_named 7 rfl) rfl rfl ?_
  refine r_iconst (dc_X9_named 8 rfl) kiconst_3 ?_
  rcases tb_some h with ⟨u0, s3, e0, h⟩ | ⟨E0, s3, e0, h⟩
  rotate_left
  · subst h
    exact r_callVX (dc_X9_named 9 rfl) mv_X9_needWhat ml_RX9_166 (As := [.int xa3, .int (3 : Int32)]) (t_X9_needWhat (d := d - 1) hl (by omega) e0) (by omega) rfl (Nat.le_of_ble_eq_true rfl) rfl
  refine r_callV (dc_X9_named 9 rfl) mv_X9_needWhat ml_RX9_166 (As := [.int xa3, .int (3 : Int32)]) (t_X9_needWhat (d := d - 1) hl (by omega) e0) (by omega) rfl (Nat.le_of_ble_eq_true rfl) ?_
  refine r_iconst (dc_X9_named 10 rfl) kiconst_0 ?_
  refine r_istore (dc_X9_named 11 rfl) (by decide) (lo' := [(4, .int (0 : Int32)), (0, .ref a0), (1, .int xa1), (2, .int xa2), (3, .int xa3)]) rfl ?_
  refine r_iconst (dc_X9_named 12 rfl) kiconst_m1 ?_
  refine r_istore (dc_X9_named 13 rfl) (by decide) (lo' := [(5, .int (-1 : Int32)), (4, .int (0 : Int32)), (0, .ref a0), (1, .int xa1), (2, .int xa2), (3, .int xa3)]) rfl ?_
  refine r_iconst (dc_X9_named 14 rfl) kiconst_m1 ?_
  refine r_istore (dc_X9_named 15 rfl) (by decide) (lo' := [(6, .int (-1 : Int32)), (5, .int (-1 : Int32)), (4, .int (0 : Int32)), (0, .ref a0), (1, .int xa1), (2, .int xa2), (3, .int xa3)]) rfl ?_
  refine r_iconst (dc_X9_named 16 rfl) kiconst_0 ?_
  refine r_istore (dc_X9_named 17 rfl) (by decide) (lo' := [(7, .int (0 : Int32)), (6, .int (-1 : Int32)), (5, .int (-1 : Int32)), (4, .int (0 : Int32)), (0, .ref a0), (1, .int xa1), (2, .int xa2), (3, .int xa3)]) rfl ?_
  refine r_pick [4, 5, 6, 7, 3, 2, 1, 0] (lo' := [(0, .ref a0), (1, .int xa1), (2, .int xa2), (3, .int xa3), (4, .int (0 : Int32)), (5, .int (-1 : Int32)), (6, .int (-1 : Int32)), (7, .int (0 : Int32))]) rfl ?_
  refine l_X9_named_L28 hl hd (hk108 := ?_) fu _ _ _ _ h
  · intro x18 x19 x20 h
    refine r_iload_n (dc_X9_named 53 rfl) rfl rfl ?_
    refine r_if_ne (dc_X9_named 54 rfl) (tgt := 115) (by decide) (fun c0 => ?_) (fun c0 => ?_)
    · rw [if_neg c0] at h
      refine r_iload_n (dc_X9_named 57 rfl) rfl rfl ?_
      refine r_iconst (dc_X9_named 58 rfl) kiconst_1 ?_
      refine r_icmp_ne (dc_X9_named 59 rfl) (tgt := 125) (by decide) (fun c0 => ?_) (fun c0 => ?_)
      · rw [if_neg c0] at h
        refine r_iload (dc_X9_named 62 rfl) rfl ?_
        cases h
        exact r_ireturn (dc_X9_named 63 rfl) rfl
      · rw [if_pos c0] at h
        refine r_iload (dc_X9_named 60 rfl) rfl ?_
        refine r_goto (dc_X9_named 61 rfl) (tgt := 127) (by decide) ?_
        cases h
        exact r_ireturn (dc_X9_named 63 rfl) rfl
    · rw [if_pos c0] at h
      refine r_iload (dc_X9_named 55 rfl) rfl ?_
      cases h
      exact r_ireturn (dc_X9_named 56 rfl) rfl
theorem t_X9_log {G : Gx} {d : Nat} (hl : G.1.stackTraces = false) (hd : 7 ≤ d) {σ : Sto} {a0 : Nat} {xa1 : Int32} {xa2 : Int32} {r : ((Int32 ⊕ String) × Sto)} (h : F_X9_log σ a0 xa1 xa2 = some r) : Mi G d m_X9_log 9 a0 [.int xa1, .int xa2] σ (toI r.1) r.2 := by
  rw [F_X9_log] at h
  obtain ⟨hg, h⟩ := chk_some h
  refine ⟨J.toMt (lo := [(0, .ref a0), (1, .int xa1), (2, .int xa2)]) pn_RX9 rfl hl (Nat.le_of_ble_eq_true rfl) rfl ?_, hg⟩
  refine r_aload_n (dc_X9_log 0 rfl) rfl rfl ?_
  refine r_iload_n (dc_X9_log 1 rfl) rfl rfl ?_
  rcases tb_some h with ⟨u0, s1, e0, h⟩ | ⟨E0, s1, e0, h⟩
  rotate_left
  · subst h
    exact r_callVX (dc_X9_log 2 rfl) mv_X9_needSite ml_RX9_67 (As := [.int xa1]) (t_X9_needSite (d := d - 1) hl (by omega) e0) (by omega) rfl (Nat.le_of_ble_eq_true rfl) rfl
  refine r_callV (dc_X9_log 2 rfl) mv_X9_needSite ml_RX9_67 (As := [.int xa1]) (t_X9_needSite (d := d - 1) hl (by omega) e0) (by omega) rfl (Nat.le_of_ble_eq_true rfl) ?_
  refine r_iload_n (dc_X9_log 3 rfl) rfl rfl ?_
  refine r_if_lt (dc_X9_log 4 rfl) (tgt := 25) (by decide) (fun c0 => ?_) (fun c0 => ?_)
  · rw [if_pos c0] at h
    cases h
    exact r_throwN tl_RX9_109_113 (str_in 17 rfl) (dc_X9_log 13 rfl) (dc_X9_log 14 rfl) (dc_X9_log 15 rfl) (dc_X9_log 16 rfl) (dc_X9_log 17 rfl) rfl (by omega) (Nat.le_of_ble_eq_true rfl)
  · rw [if_neg c0] at h
    refine r_iload_n (dc_X9_log 5 rfl) rfl rfl ?_
    refine r_aload_n (dc_X9_log 6 rfl) rfl rfl ?_
    obtain ⟨p2, e0, h⟩ := Option.bind_eq_some_iff.mp h
    refine r_getR (dc_X9_log 7 rfl) fl_RX9_12 e0 ?_
    obtain ⟨p3, e0, h⟩ := Option.bind_eq_some_iff.mp h
    refine r_getR (dc_X9_log 8 rfl) fl_RX9_94 e0 ?_
    refine r_iload_n (dc_X9_log 9 rfl) rfl rfl ?_
    obtain ⟨p4, e0, h⟩ := Option.bind_eq_some_iff.mp h
    refine r_aaldR (dc_X9_log 10 rfl) (kd := 4) rfl e0 ?_
    obtain ⟨x5, e0, h⟩ := Option.bind_eq_some_iff.mp h
    refine r_getI (dc_X9_log 11 rfl) fl_RX9_229 e0 ?_
    refine r_icmp_lt (dc_X9_log 12 rfl) (tgt := 35) (by decide) (fun c0 => ?_) (fun c0 => ?_)
    · rw [if_pos c0] at h
      refine r_aload_n (dc_X9_log 18 rfl) rfl rfl ?_
      obtain ⟨p6, e0, h⟩ := Option.bind_eq_some_iff.mp h
      refine r_getR (dc_X9_log 19 rfl) fl_RX9_12 e0 ?_
      obtain ⟨p7, e0, h⟩ := Option.bind_eq_some_iff.mp h
      refine r_getR (dc_X9_log 20 rfl) fl_RX9_94 e0 ?_
      refine r_iload_n (dc_X9_log 21 rfl) rfl rfl ?_
      obtain ⟨p8, e0, h⟩ := Option.bind_eq_some_iff.mp h
      refine r_aaldR (dc_X9_log 22 rfl) (kd := 4) rfl e0 ?_
      obtain ⟨p9, e0, h⟩ := Option.bind_eq_some_iff.mp h
      refine r_getR (dc_X9_log 23 rfl) fl_RX9_234 e0 ?_
      refine r_iload_n (dc_X9_log 24 rfl) rfl rfl ?_
      obtain ⟨x10, e0, h⟩ := Option.bind_eq_some_iff.mp h
      refine r_iald (dc_X9_log 25 rfl) e0 ?_
      cases h
      exact r_ireturn (dc_X9_log 26 rfl) rfl
    · rw [if_neg c0] at h
      cases h
      exact r_throwN tl_RX9_109_113 (str_in 17 rfl) (dc_X9_log 13 rfl) (dc_X9_log 14 rfl) (dc_X9_log 15 rfl) (dc_X9_log 16 rfl) (dc_X9_log 17 rfl) rfl (by omega) (Nat.le_of_ble_eq_true rfl)
theorem t_X9_table {G : Gx} {d : Nat} (hl : G.1.stackTraces = false) (hd : 7 ≤ d) {σ : Sto} {a0 : Nat} {xa1 : Int32} {xa2 : Int32} {xa3 : Int32} {r : ((Int32 ⊕ String) × Sto)} (h : F_X9_table σ a0 xa1 xa2 xa3 = some r) : Mi G d m_X9_table 9 a0 [.int xa1, .int xa2, .int xa3] σ (toI r.1) r.2 := by
  rw [F_X9_table] at h
  obtain ⟨hg, h⟩ := chk_some h
  refine ⟨J.toMt (lo := [(0, .ref a0), (1, .int xa1), (2, .int xa2), (3, .int xa3)]) pn_RX9 rfl hl (Nat.le_of_ble_eq_true rfl) rfl ?_, hg⟩
  refine r_aload_n (dc_X9_table 0 rfl) rfl rfl ?_
  refine r_iload_n (dc_X9_table 1 rfl) rfl rfl ?_
  rcases tb_some h with ⟨u0, s1, e0, h⟩ | ⟨E0, s1, e0, h⟩
  rotate_left
  · subst h
    exact r_callVX (dc_X9_table 2 rfl) mv_X9_needSite ml_RX9_67 (As := [.int xa1]) (t_X9_needSite (d := d - 1) hl (by omega) e0) (by omega) rfl (Nat.le_of_ble_eq_true rfl) rfl
  refine r_callV (dc_X9_table 2 rfl) mv_X9_needSite ml_RX9_67 (As := [.int xa1]) (t_X9_needSite (d := d - 1) hl (by omega) e0) (by omega) rfl (Nat.le_of_ble_eq_true rfl) ?_
  refine r_aload_n (dc_X9_table 3 rfl) rfl rfl ?_
  refine r_iload_n (dc_X9_table 4 rfl) rfl rfl ?_
  rcases tb_some h with ⟨u0, s2, e0, h⟩ | ⟨E0, s2, e0, h⟩
  rotate_left
  · subst h
    exact r_callVX (dc_X9_table 5 rfl) mv_X9_needSite ml_RX9_67 (As := [.int xa2]) (t_X9_needSite (d := d - 1) hl (by omega) e0) (by omega) rfl (Nat.le_of_ble_eq_true rfl) rfl
  refine r_callV (dc_X9_table 5 rfl) mv_X9_needSite ml_RX9_67 (As := [.int xa2]) (t_X9_needSite (d := d - 1) hl (by omega) e0) (by omega) rfl (Nat.le_of_ble_eq_true rfl) ?_
  refine r_aload_n (dc_X9_table 6 rfl) rfl rfl ?_
  refine r_iload_n (dc_X9_table 7 rfl) rfl rfl ?_
  rcases tb_some h with ⟨u0, s3, e0, h⟩ | ⟨E0, s3, e0, h⟩
  rotate_left
  · subst h
    exact r_callVX (dc_X9_table 8 rfl) mv_X9_needSite ml_RX9_67 (As := [.int xa3]) (t_X9_needSite (d := d - 1) hl (by omega) e0) (by omega) rfl (Nat.le_of_ble_eq_true rfl) rfl
  refine r_callV (dc_X9_table 8 rfl) mv_X9_needSite ml_RX9_67 (As := [.int xa3]) (t_X9_needSite (d := d - 1) hl (by omega) e0) (by omega) rfl (Nat.le_of_ble_eq_true rfl) ?_
  refine r_aload_n (dc_X9_table 9 rfl) rfl rfl ?_
  obtain ⟨p4, e0, h⟩ := Option.bind_eq_some_iff.mp h
  refine r_getR (dc_X9_table 10 rfl) fl_RX9_12 e0 ?_
  obtain ⟨p5, e0, h⟩ := Option.bind_eq_some_iff.mp h
  refine r_getR (dc_X9_table 11 rfl) fl_RX9_94 e0 ?_
  refine r_iload_n (dc_X9_table 12 rfl) rfl rfl ?_
  obtain ⟨p6, e0, h⟩ := Option.bind_eq_some_iff.mp h
  refine r_aaldR (dc_X9_table 13 rfl) (kd := 4) rfl e0 ?_
  obtain ⟨p7, e0, h⟩ := Option.bind_eq_some_iff.mp h
  refine r_getR (dc_X9_table 14 rfl) fl_RX9_237 e0 ?_
  refine r_iload_n (dc_X9_table 15 rfl) rfl rfl ?_
  refine r_iload_n (dc_X9_table 16 rfl) rfl rfl ?_
  obtain ⟨x8, e0, h⟩ := Option.bind_eq_some_iff.mp h
  refine r_callS (dc_X9_table 17 rfl) ms_X9_cell ml_RX9_240 (As := [.int xa2, .int xa3]) (t_X9_cell (d := d - 1) hl (by omega) e0) (by omega) rfl (Nat.le_of_ble_eq_true rfl) ?_
  obtain ⟨x9, e0, h⟩ := Option.bind_eq_some_iff.mp h
  refine r_iald (dc_X9_table 18 rfl) e0 ?_
  cases h
  exact r_ireturn (dc_X9_table 19 rfl) rfl
theorem t_X9_needEvent {G : Gx} {d : Nat} (hl : G.1.stackTraces = false) (hd : 6 ≤ d) {σ : Sto} {a0 : Nat} {xa1 : Int32} {r : ((Unit ⊕ String) × Sto)} (h : F_X9_needEvent σ a0 xa1 = some r) : Mi G d m_X9_needEvent 9 a0 [.int xa1] σ (toU r.1) r.2 := by
  rw [F_X9_needEvent] at h
  obtain ⟨hg, h⟩ := chk_some h
  refine ⟨J.toMt (lo := [(0, .ref a0), (1, .int xa1)]) pn_RX9 rfl hl (Nat.le_of_ble_eq_true rfl) rfl ?_, hg⟩
  refine r_aload_n (dc_X9_needEvent 0 rfl) rfl rfl ?_
  obtain ⟨p1, e0, h⟩ := Option.bind_eq_some_iff.mp h
  refine r_getR (dc_X9_needEvent 1 rfl) fl_RX9_12 e0 ?_
  obtain ⟨p2, e0, h⟩ := Option.bind_eq_some_iff.mp h
  refine r_getR (dc_X9_needEvent 2 rfl) fl_RX9_84 e0 ?_
  refine r_iload_n (dc_X9_needEvent 3 rfl) rfl rfl ?_
  obtain ⟨x3, e0, h⟩ := Option.bind_eq_some_iff.mp h
  refine r_callV (dc_X9_needEvent 4 rfl) mv_X2_contains ml_RX9_88 (As := [.int xa1]) (t_X2_contains (d := d - 1) hl (by omega) e0) (by omega) rfl (Nat.le_of_ble_eq_true rfl) ?_
  refine r_if_ne (dc_X9_needEvent 5 rfl) (tgt := 25) (by decide) (fun c0 => ?_) (fun c0 => ?_)
  · rw [if_neg c0] at h
    cases h
    exact r_vreturn (dc_X9_needEvent 11 rfl) rfl
  · rw [if_pos c0] at h
    cases h
    exact r_throwSW tl_RX9_400_404 (str_in 18 rfl) (dc_X9_needEvent 6 rfl) (dc_X9_needEvent 7 rfl) (dc_X9_needEvent 8 rfl) (dc_X9_needEvent 9 rfl) (dc_X9_needEvent 10 rfl) rfl (by omega) (Nat.le_of_ble_eq_true rfl)
theorem t_X9_knows {G : Gx} {d : Nat} (hl : G.1.stackTraces = false) (hd : 7 ≤ d) {σ : Sto} {a0 : Nat} {xa1 : Int32} {xa2 : Int32} {xa3 : Int32} {r : ((Int32 ⊕ String) × Sto)} (h : F_X9_knows σ a0 xa1 xa2 xa3 = some r) : Mi G d m_X9_knows 9 a0 [.int xa1, .int xa2, .int xa3] σ (toI r.1) r.2 := by
  rw [F_X9_knows] at h
  obtain ⟨hg, h⟩ := chk_some h
  refine ⟨J.toMt (lo := [(0, .ref a0), (1, .int xa1), (2, .int xa2), (3, .int xa3)]) pn_RX9 rfl hl (Nat.le_of_ble_eq_true rfl) rfl ?_, hg⟩
  refine r_aload_n (dc_X9_knows 0 rfl) rfl rfl ?_
  refine r_iload_n (dc_X9_knows 1 rfl) rfl rfl ?_
  rcases tb_some h with ⟨u0, s1, e0, h⟩ | ⟨E0, s1, e0, h⟩
  rotate_left
  · subst h
    exact r_callVX (dc_X9_knows 2 rfl) mv_X9_needSite ml_RX9_67 (As := [.int xa1]) (t_X9_needSite (d := d - 1) hl (by omega) e0) (by omega) rfl (Nat.le_of_ble_eq_true rfl) rfl
  refine r_callV (dc_X9_knows 2 rfl) mv_X9_needSite ml_RX9_67 (As := [.int xa1]) (t_X9_needSite (d := d - 1) hl (by omega) e0) (by omega) rfl (Nat.le_of_ble_eq_true rfl) ?_
  refine r_aload_n (dc_X9_knows 3 rfl) rfl rfl ?_
  refine r_iload_n (dc_X9_knows 4 rfl) rfl rfl ?_
  rcases tb_some h with ⟨u0, s2, e0, h⟩ | ⟨E0, s2, e0, h⟩
  rotate_left
  · subst h
    exact r_callVX (dc_X9_knows 5 rfl) mv_X9_needSite ml_RX9_67 (As := [.int xa2]) (t_X9_needSite (d := d - 1) hl (by omega) e0) (by omega) rfl (Nat.le_of_ble_eq_true rfl) rfl
  refine r_callV (dc_X9_knows 5 rfl) mv_X9_needSite ml_RX9_67 (As := [.int xa2]) (t_X9_needSite (d := d - 1) hl (by omega) e0) (by omega) rfl (Nat.le_of_ble_eq_true rfl) ?_
  refine r_aload_n (dc_X9_knows 6 rfl) rfl rfl ?_
  refine r_iload_n (dc_X9_knows 7 rfl) rfl rfl ?_
  rcases tb_some h with ⟨u0, s3, e0, h⟩ | ⟨E0, s3, e0, h⟩
  rotate_left
  · subst h
    exact r_callVX (dc_X9_knows 8 rfl) mv_X9_needEvent ml_RX9_243 (As := [.int xa3]) (t_X9_needEvent (d := d - 1) hl (by omega) e0) (by omega) rfl (Nat.le_of_ble_eq_true rfl) rfl
  refine r_callV (dc_X9_knows 8 rfl) mv_X9_needEvent ml_RX9_243 (As := [.int xa3]) (t_X9_needEvent (d := d - 1) hl (by omega) e0) (by omega) rfl (Nat.le_of_ble_eq_true rfl) ?_
  refine r_aload_n (dc_X9_knows 9 rfl) rfl rfl ?_
  obtain ⟨p4, e0, h⟩ := Option.bind_eq_some_iff.mp h
  refine r_getR (dc_X9_knows 10 rfl) fl_RX9_12 e0 ?_
  obtain ⟨p5, e0, h⟩ := Option.bind_eq_some_iff.mp h
  refine r_getR (dc_X9_knows 11 rfl) fl_RX9_94 e0 ?_
  refine r_iload_n (dc_X9_knows 12 rfl) rfl rfl ?_
  obtain ⟨p6, e0, h⟩ := Option.bind_eq_some_iff.mp h
  refine r_aaldR (dc_X9_knows 13 rfl) (kd := 4) rfl e0 ?_
  refine r_aload_n (dc_X9_knows 14 rfl) rfl rfl ?_
  obtain ⟨p7, e0, h⟩ := Option.bind_eq_some_iff.mp h
  refine r_getR (dc_X9_knows 15 rfl) fl_RX9_12 e0 ?_
  obtain ⟨p8, e0, h⟩ := Option.bind_eq_some_iff.mp h
  refine r_getR (dc_X9_knows 16 rfl) fl_RX9_84 e0 ?_
  refine r_iload_n (dc_X9_knows 17 rfl) rfl rfl ?_
  refine r_iload_n (dc_X9_knows 18 rfl) rfl rfl ?_
  obtain ⟨x9, e0, h⟩ := Option.bind_eq_some_iff.mp h
  refine r_callV (dc_X9_knows 19 rfl) mv_X6_isKnown ml_RX9_246 (As := [.ref p8, .int xa2, .int xa3]) (t_X6_isKnown (d := d - 1) hl (by omega) e0) (by omega) rfl (Nat.le_of_ble_eq_true rfl) ?_
  split at h
  · rename_i c0
    cases h
    exact r_zreturn (dc_X9_knows 20 rfl) rfl c0
  · cases h
theorem t_X9_has {G : Gx} {d : Nat} (hl : G.1.stackTraces = false) (hd : 7 ≤ d) {σ : Sto} {a0 : Nat} {xa1 : Int32} {xa2 : Int32} {r : ((Int32 ⊕ String) × Sto)} (h : F_X9_has σ a0 xa1 xa2 = some r) : Mi G d m_X9_has 9 a0 [.int xa1, .int xa2] σ (toI r.1) r.2 := by
  rw [F_X9_has] at h
  obtain ⟨hg, h⟩ := chk_some h
  refine ⟨J.toMt (lo := [(0, .ref a0), (1, .int xa1), (2, .int xa2)]) pn_RX9 rfl hl (Nat.le_of_ble_eq_true rfl) rfl ?_, hg⟩
  refine r_aload_n (dc_X9_has 0 rfl) rfl rfl ?_
  refine r_iload_n (dc_X9_has 1 rfl) rfl rfl ?_
  rcases tb_some h with ⟨u0, s1, e0, h⟩ | ⟨E0, s1, e0, h⟩
  rotate_left
  · subst h
    exact r_callVX (dc_X9_has 2 rfl) mv_X9_needSite ml_RX9_67 (As := [.int xa1]) (t_X9_needSite (d := d - 1) hl (by omega) e0) (by omega) rfl (Nat.le_of_ble_eq_true rfl) rfl
  refine r_callV (dc_X9_has 2 rfl) mv_X9_needSite ml_RX9_67 (As := [.int xa1]) (t_X9_needSite (d := d - 1) hl (by omega) e0) (by omega) rfl (Nat.le_of_ble_eq_true rfl) ?_
  refine r_aload_n (dc_X9_has 3 rfl) rfl rfl ?_
  refine r_iload_n (dc_X9_has 4 rfl) rfl rfl ?_
  rcases tb_some h with ⟨u0, s2, e0, h⟩ | ⟨E0, s2, e0, h⟩
  rotate_left
  · subst h
    exact r_callVX (dc_X9_has 5 rfl) mv_X9_needEvent ml_RX9_243 (As := [.int xa2]) (t_X9_needEvent (d := d - 1) hl (by omega) e0) (by omega) rfl (Nat.le_of_ble_eq_true rfl) rfl
  refine r_callV (dc_X9_has 5 rfl) mv_X9_needEvent ml_RX9_243 (As := [.int xa2]) (t_X9_needEvent (d := d - 1) hl (by omega) e0) (by omega) rfl (Nat.le_of_ble_eq_true rfl) ?_
  refine r_aload_n (dc_X9_has 6 rfl) rfl rfl ?_
  obtain ⟨p3, e0, h⟩ := Option.bind_eq_some_iff.mp h
  refine r_getR (dc_X9_has 7 rfl) fl_RX9_12 e0 ?_
  obtain ⟨p4, e0, h⟩ := Option.bind_eq_some_iff.mp h
  refine r_getR (dc_X9_has 8 rfl) fl_RX9_94 e0 ?_
  refine r_iload_n (dc_X9_has 9 rfl) rfl rfl ?_
  obtain ⟨p5, e0, h⟩ := Option.bind_eq_some_iff.mp h
  refine r_aaldR (dc_X9_has 10 rfl) (kd := 4) rfl e0 ?_
  obtain ⟨p6, e0, h⟩ := Option.bind_eq_some_iff.mp h
  refine r_getR (dc_X9_has 11 rfl) fl_RX9_180 e0 ?_
  refine r_iload_n (dc_X9_has 12 rfl) rfl rfl ?_
  obtain ⟨x7, e0, h⟩ := Option.bind_eq_some_iff.mp h
  refine r_callV (dc_X9_has 13 rfl) mv_X1_holds ml_RX9_104 (As := [.int xa2]) (t_X1_holds (d := d - 1) hl (by omega) e0) (by omega) rfl (Nat.le_of_ble_eq_true rfl) ?_
  split at h
  · rename_i c0
    cases h
    exact r_zreturn (dc_X9_has 14 rfl) rfl c0
  · cases h
theorem t_X9_site {G : Gx} {d : Nat} (hl : G.1.stackTraces = false) (hd : 7 ≤ d) {σ : Sto} {a0 : Nat} {xa1 : Int32} {xa2 : Int32} {r : ((Int32 ⊕ String) × Sto)} (h : F_X9_site σ a0 xa1 xa2 = some r) : Mi G d m_X9_site 9 a0 [.int xa1, .int xa2] σ (toI r.1) r.2 := by
  rw [F_X9_site] at h
  obtain ⟨hg, h⟩ := chk_some h
  refine ⟨J.toMt (lo := [(0, .ref a0), (1, .int xa1), (2, .int xa2)]) pn_RX9 rfl hl (Nat.le_of_ble_eq_true rfl) rfl ?_, hg⟩
  refine r_aload_n (dc_X9_site 0 rfl) rfl rfl ?_
  refine r_iload_n (dc_X9_site 1 rfl) rfl rfl ?_
  rcases tb_some h with ⟨u0, s1, e0, h⟩ | ⟨E0, s1, e0, h⟩
  rotate_left
  · subst h
    exact r_callVX (dc_X9_site 2 rfl) mv_X9_needSite ml_RX9_67 (As := [.int xa1]) (t_X9_needSite (d := d - 1) hl (by omega) e0) (by omega) rfl (Nat.le_of_ble_eq_true rfl) rfl
  refine r_callV (dc_X9_site 2 rfl) mv_X9_needSite ml_RX9_67 (As := [.int xa1]) (t_X9_needSite (d := d - 1) hl (by omega) e0) (by omega) rfl (Nat.le_of_ble_eq_true rfl) ?_
  refine r_aload_n (dc_X9_site 3 rfl) rfl rfl ?_
  refine r_iload_n (dc_X9_site 4 rfl) rfl rfl ?_
  refine r_bipush (dc_X9_site 5 rfl) kbipush_8 ?_
  rcases tb_some h with ⟨u0, s2, e0, h⟩ | ⟨E0, s2, e0, h⟩
  rotate_left
  · subst h
    exact r_callVX (dc_X9_site 6 rfl) mv_X9_needWhat ml_RX9_166 (As := [.int xa2, .int (8 : Int32)]) (t_X9_needWhat (d := d - 1) hl (by omega) e0) (by omega) rfl (Nat.le_of_ble_eq_true rfl) rfl
  refine r_callV (dc_X9_site 6 rfl) mv_X9_needWhat ml_RX9_166 (As := [.int xa2, .int (8 : Int32)]) (t_X9_needWhat (d := d - 1) hl (by omega) e0) (by omega) rfl (Nat.le_of_ble_eq_true rfl) ?_
  refine r_aload_n (dc_X9_site 7 rfl) rfl rfl ?_
  obtain ⟨p3, e0, h⟩ := Option.bind_eq_some_iff.mp h
  refine r_getR (dc_X9_site 8 rfl) fl_RX9_12 e0 ?_
  obtain ⟨p4, e0, h⟩ := Option.bind_eq_some_iff.mp h
  refine r_getR (dc_X9_site 9 rfl) fl_RX9_94 e0 ?_
  refine r_iload_n (dc_X9_site 10 rfl) rfl rfl ?_
  obtain ⟨p5, e0, h⟩ := Option.bind_eq_some_iff.mp h
  refine r_aaldR (dc_X9_site 11 rfl) (kd := 4) rfl e0 ?_
  refine r_astore_n (dc_X9_site 12 rfl) rfl (by decide) (lo' := [(3, .ref p5), (0, .ref a0), (1, .int xa1), (2, .int xa2)]) rfl ?_
  refine r_iload_n (dc_X9_site 13 rfl) rfl rfl ?_
  by_cases c0 : xa2 = (0 : Int32)
  · rw [if_pos c0] at h
    refine r_tsInE c0 (dc_X9_site 14 rfl) (tgt := 64) (off := 41) (by decide) (by decide) (by decide) (by decide) ?_
    refine r_aload_n (dc_X9_site 15 rfl) rfl rfl ?_
    obtain ⟨p6, e0, h⟩ := Option.bind_eq_some_iff.mp h
    refine r_getR (dc_X9_site 16 rfl) fl_RX9_12 e0 ?_
    obtain ⟨p7, e0, h⟩ := Option.bind_eq_some_iff.mp h
    refine r_getR (dc_X9_site 17 rfl) fl_RX9_84 e0 ?_
    obtain ⟨p8, e0, h⟩ := Option.bind_eq_some_iff.mp h
    refine r_getR (dc_X9_site 18 rfl) fl_RX9_250 e0 ?_
    refine r_iload_n (dc_X9_site 19 rfl) rfl rfl ?_
    obtain ⟨x9, e0, h⟩ := Option.bind_eq_some_iff.mp h
    refine r_iald (dc_X9_site 20 rfl) e0 ?_
    cases h
    exact r_ireturn (dc_X9_site 21 rfl) rfl
  rw [if_neg c0] at h
  by_cases c1 : xa2 = (1 : Int32)
  · rw [if_pos c1] at h
    refine r_tsInE c1 (dc_X9_site 14 rfl) (tgt := 77) (off := 54) (by decide) (by decide) (by decide) (by decide) ?_
    refine r_aload_n (dc_X9_site 22 rfl) rfl rfl ?_
    obtain ⟨p10, e0, h⟩ := Option.bind_eq_some_iff.mp h
    refine r_getR (dc_X9_site 23 rfl) fl_RX9_98 e0 ?_
    obtain ⟨x11, e0, h⟩ := Option.bind_eq_some_iff.mp h
    refine r_callV (dc_X9_site 24 rfl) mv_X1_size ml_RX9_253 (As := []) (t_X1_size (d := d - 1) hl (by omega) e0) (by omega) rfl (Nat.le_of_ble_eq_true rfl) ?_
    cases h
    exact r_ireturn (dc_X9_site 25 rfl) rfl
  rw [if_neg c1] at h
  by_cases c2 : xa2 = (2 : Int32)
  · rw [if_pos c2] at h
    refine r_tsInE c2 (dc_X9_site 14 rfl) (tgt := 85) (off := 62) (by decide) (by decide) (by decide) (by decide) ?_
    refine r_aload_n (dc_X9_site 26 rfl) rfl rfl ?_
    obtain ⟨x12, e0, h⟩ := Option.bind_eq_some_iff.mp h
    refine r_getI (dc_X9_site 27 rfl) fl_RX9_229 e0 ?_
    cases h
    exact r_ireturn (dc_X9_site 28 rfl) rfl
  rw [if_neg c2] at h
  by_cases c3 : xa2 = (3 : Int32)
  · rw [if_pos c3] at h
    refine r_tsInE c3 (dc_X9_site 14 rfl) (tgt := 90) (off := 67) (by decide) (by decide) (by decide) (by decide) ?_
    refine r_aload_n (dc_X9_site 29 rfl) rfl rfl ?_
    obtain ⟨p13, e0, h⟩ := Option.bind_eq_some_iff.mp h
    refine r_getR (dc_X9_site 30 rfl) fl_RX9_180 e0 ?_
    obtain ⟨x14, e0, h⟩ := Option.bind_eq_some_iff.mp h
    refine r_callV (dc_X9_site 31 rfl) mv_X1_size ml_RX9_253 (As := []) (t_X1_size (d := d - 1) hl (by omega) e0) (by omega) rfl (Nat.le_of_ble_eq_true rfl) ?_
    cases h
    exact r_ireturn (dc_X9_site 32 rfl) rfl
  rw [if_neg c3] at h
  by_cases c4 : xa2 = (4 : Int32)
  · rw [if_pos c4] at h
    refine r_tsInE c4 (dc_X9_site 14 rfl) (tgt := 98) (off := 75) (by decide) (by decide) (by decide) (by decide) ?_
    refine r_aload_n (dc_X9_site 33 rfl) rfl rfl ?_
    obtain ⟨p15, e0, h⟩ := Option.bind_eq_some_iff.mp h
    refine r_getR (dc_X9_site 34 rfl) fl_RX9_32 e0 ?_
    refine r_iload_n (dc_X9_site 35 rfl) rfl rfl ?_
    obtain ⟨x17, s16, e0, h⟩ := wb_some h
    refine r_callV (dc_X9_site 36 rfl) mv_X5_overstatedAt ml_RX9_256 (As := [.int xa1]) (t_X5_overstatedAt (d := d - 1) hl (by omega) e0) (by omega) rfl (Nat.le_of_ble_eq_true rfl) ?_
    cases h
    exact r_ireturn (dc_X9_site 37 rfl) rfl
  rw [if_neg c4] at h
  by_cases c5 : xa2 = (5 : Int32)
  · rw [if_pos c5] at h
    refine r_tsInE c5 (dc_X9_site 14 rfl) (tgt := 107) (off := 84) (by decide) (by decide) (by decide) (by decide) ?_
    refine r_aload_n (dc_X9_site 38 rfl) rfl rfl ?_
    obtain ⟨p18, e0, h⟩ := Option.bind_eq_some_iff.mp h
    refine r_getR (dc_X9_site 39 rfl) fl_RX9_32 e0 ?_
    refine r_iload_n (dc_X9_site 40 rfl) rfl rfl ?_
    obtain ⟨x20, s19, e0, h⟩ := wb_some h
    refine r_callV (dc_X9_site 41 rfl) mv_X5_lostTo ml_RX9_259 (As := [.int xa1]) (t_X5_lostTo (d := d - 1) hl (by omega) e0) (by omega) rfl (Nat.le_of_ble_eq_true rfl) ?_
    cases h
    exact r_ireturn (dc_X9_site 42 rfl) rfl
  rw [if_neg c5] at h
  by_cases c6 : xa2 = (6 : Int32)
  · rw [if_pos c6] at h
    refine r_tsInE c6 (dc_X9_site 14 rfl) (tgt := 116) (off := 93) (by decide) (by decide) (by decide) (by decide) ?_
    refine r_aload_n (dc_X9_site 43 rfl) rfl rfl ?_
    obtain ⟨p21, e0, h⟩ := Option.bind_eq_some_iff.mp h
    refine r_getR (dc_X9_site 44 rfl) fl_RX9_32 e0 ?_
    obtain ⟨x23, s22, e0, h⟩ := wb_some h
    refine r_callV (dc_X9_site 45 rfl) mv_X5_heldByAll ml_RX9_262 (As := []) (t_X5_heldByAll (d := d - 1) hl (by omega) e0) (by omega) rfl (Nat.le_of_ble_eq_true rfl) ?_
    cases h
    exact r_ireturn (dc_X9_site 46 rfl) rfl
  rw [if_neg c6] at h
  refine r_tsOut (dc_X9_site 14 rfl) (tgt := 124) (ts_out (n := 7) (fun k hk => match k, hk with | 0, _ => c0 | 1, _ => c1 | 2, _ => c2 | 3, _ => c3 | 4, _ => c4 | 5, _ => c5 | 6, _ => c6 | k + 7, hk => absurd hk (by omega)) (by decide)) (by decide) ?_
  refine r_aload_n (dc_X9_site 47 rfl) rfl rfl ?_
  obtain ⟨p24, e0, h⟩ := Option.bind_eq_some_iff.mp h
  refine r_getR (dc_X9_site 48 rfl) fl_RX9_32 e0 ?_
  refine r_iload_n (dc_X9_site 49 rfl) rfl rfl ?_
  obtain ⟨x26, s25, e0, h⟩ := wb_some h
  refine r_callV (dc_X9_site 50 rfl) mv_X5_heldByAllInLog ml_RX9_265 (As := [.int xa1]) (t_X5_heldByAllInLog (d := d - 1) hl (by omega) e0) (by omega) rfl (Nat.le_of_ble_eq_true rfl) ?_
  cases h
  exact r_ireturn (dc_X9_site 51 rfl) rfl
theorem t_X9_unlike {G : Gx} {d : Nat} (hl : G.1.stackTraces = false) (hd : 7 ≤ d) {σ : Sto} {a0 : Nat} {xa1 : Int32} {xa2 : Int32} {r : ((Int32 ⊕ String) × Sto)} (h : F_X9_unlike σ a0 xa1 xa2 = some r) : Mi G d m_X9_unlike 9 a0 [.int xa1, .int xa2] σ (toI r.1) r.2 := by
  rw [F_X9_unlike] at h
  obtain ⟨hg, h⟩ := chk_some h
  refine ⟨J.toMt (lo := [(0, .ref a0), (1, .int xa1), (2, .int xa2)]) pn_RX9 rfl hl (Nat.le_of_ble_eq_true rfl) rfl ?_, hg⟩
  refine r_aload_n (dc_X9_unlike 0 rfl) rfl rfl ?_
  refine r_iload_n (dc_X9_unlike 1 rfl) rfl rfl ?_
  refine r_iload_n (dc_X9_unlike 2 rfl) rfl rfl ?_
  rcases tb_some h with ⟨u0, s1, e0, h⟩ | ⟨E0, s1, e0, h⟩
  rotate_left
  · subst h
    exact r_callVX (dc_X9_unlike 3 rfl) mv_X9_needTwoSites ml_RX9_117 (As := [.int xa1, .int xa2]) (t_X9_needTwoSites (d := d - 1) hl (by omega) e0) (by omega) rfl (Nat.le_of_ble_eq_true rfl) rfl
  refine r_callV (dc_X9_unlike 3 rfl) mv_X9_needTwoSites ml_RX9_117 (As := [.int xa1, .int xa2]) (t_X9_needTwoSites (d := d - 1) hl (by omega) e0) (by omega) rfl (Nat.le_of_ble_eq_true rfl) ?_
  refine r_aload_n (dc_X9_unlike 4 rfl) rfl rfl ?_
  obtain ⟨p2, e0, h⟩ := Option.bind_eq_some_iff.mp h
  refine r_getR (dc_X9_unlike 5 rfl) fl_RX9_12 e0 ?_
  obtain ⟨p3, e0, h⟩ := Option.bind_eq_some_iff.mp h
  refine r_getR (dc_X9_unlike 6 rfl) fl_RX9_94 e0 ?_
  refine r_iload_n (dc_X9_unlike 7 rfl) rfl rfl ?_
  obtain ⟨p4, e0, h⟩ := Option.bind_eq_some_iff.mp h
  refine r_aaldR (dc_X9_unlike 8 rfl) (kd := 4) rfl e0 ?_
  obtain ⟨p5, e0, h⟩ := Option.bind_eq_some_iff.mp h
  refine r_getR (dc_X9_unlike 9 rfl) fl_RX9_98 e0 ?_
  refine r_astore_n (dc_X9_unlike 10 rfl) rfl (by decide) (lo' := [(3, .ref p5), (0, .ref a0), (1, .int xa1), (2, .int xa2)]) rfl ?_
  refine r_aload_n (dc_X9_unlike 11 rfl) rfl rfl ?_
  obtain ⟨x6, e0, h⟩ := Option.bind_eq_some_iff.mp h
  refine r_callV (dc_X9_unlike 12 rfl) mv_X1_size ml_RX9_253 (As := []) (t_X1_size (d := d - 1) hl (by omega) e0) (by omega) rfl (Nat.le_of_ble_eq_true rfl) ?_
  refine r_aload_n (dc_X9_unlike 13 rfl) rfl rfl ?_
  refine r_aload_n (dc_X9_unlike 14 rfl) rfl rfl ?_
  obtain ⟨p7, e0, h⟩ := Option.bind_eq_some_iff.mp h
  refine r_getR (dc_X9_unlike 15 rfl) fl_RX9_12 e0 ?_
  obtain ⟨p8, e0, h⟩ := Option.bind_eq_some_iff.mp h
  refine r_getR (dc_X9_unlike 16 rfl) fl_RX9_94 e0 ?_
  refine r_iload_n (dc_X9_unlike 17 rfl) rfl rfl ?_
  obtain ⟨p9, e0, h⟩ := Option.bind_eq_some_iff.mp h
  refine r_aaldR (dc_X9_unlike 18 rfl) (kd := 4) rfl e0 ?_
  obtain ⟨p10, e0, h⟩ := Option.bind_eq_some_iff.mp h
  refine r_getR (dc_X9_unlike 19 rfl) fl_RX9_98 e0 ?_
  obtain ⟨x11, e0, h⟩ := Option.bind_eq_some_iff.mp h
  refine r_callV (dc_X9_unlike 20 rfl) mv_X1_shared ml_RX9_183 (As := [.ref p10]) (t_X1_shared (d := d - 1) hl (by omega) e0) (by omega) rfl (Nat.le_of_ble_eq_true rfl) ?_
  refine r_isub (dc_X9_unlike 21 rfl) ?_
  cases h
  exact r_ireturn (dc_X9_unlike 22 rfl) rfl
theorem t_X9_would {G : Gx} {d : Nat} (hl : G.1.stackTraces = false) (hd : 7 ≤ d) {σ : Sto} {a0 : Nat} {xa1 : Int32} {xa2 : Int32} {xa3 : Int32} {r : ((Int32 ⊕ String) × Sto)} (h : F_X9_would σ a0 xa1 xa2 xa3 = some r) : Mi G d m_X9_would 9 a0 [.int xa1, .int xa2, .int xa3] σ (toI r.1) r.2 := by
  rw [F_X9_would] at h
  obtain ⟨hg, h⟩ := chk_some h
  refine ⟨J.toMt (lo := [(0, .ref a0), (1, .int xa1), (2, .int xa2), (3, .int xa3)]) pn_RX9 rfl hl (Nat.le_of_ble_eq_true rfl) rfl ?_, hg⟩
  refine r_aload_n (dc_X9_would 0 rfl) rfl rfl ?_
  refine r_iload_n (dc_X9_would 1 rfl) rfl rfl ?_
  refine r_iload_n (dc_X9_would 2 rfl) rfl rfl ?_
  rcases tb_some h with ⟨u0, s1, e0, h⟩ | ⟨E0, s1, e0, h⟩
  rotate_left
  · subst h
    exact r_callVX (dc_X9_would 3 rfl) mv_X9_needTwoSites ml_RX9_117 (As := [.int xa1, .int xa2]) (t_X9_needTwoSites (d := d - 1) hl (by omega) e0) (by omega) rfl (Nat.le_of_ble_eq_true rfl) rfl
  refine r_callV (dc_X9_would 3 rfl) mv_X9_needTwoSites ml_RX9_117 (As := [.int xa1, .int xa2]) (t_X9_needTwoSites (d := d - 1) hl (by omega) e0) (by omega) rfl (Nat.le_of_ble_eq_true rfl) ?_
  refine r_aload_n (dc_X9_would 4 rfl) rfl rfl ?_
  refine r_iload_n (dc_X9_would 5 rfl) rfl rfl ?_
  refine r_iconst (dc_X9_would 6 rfl) kiconst_3 ?_
  rcases tb_some h with ⟨u0, s2, e0, h⟩ | ⟨E0, s2, e0, h⟩
  rotate_left
  · subst h
    exact r_callVX (dc_X9_would 7 rfl) mv_X9_needWhat ml_RX9_166 (As := [.int xa3, .int (3 : Int32)]) (t_X9_needWhat (d := d - 1) hl (by omega) e0) (by omega) rfl (Nat.le_of_ble_eq_true rfl) rfl
  refine r_callV (dc_X9_would 7 rfl) mv_X9_needWhat ml_RX9_166 (As := [.int xa3, .int (3 : Int32)]) (t_X9_needWhat (d := d - 1) hl (by omega) e0) (by omega) rfl (Nat.le_of_ble_eq_true rfl) ?_
  refine r_aload_n (dc_X9_would 8 rfl) rfl rfl ?_
  obtain ⟨p3, e0, h⟩ := Option.bind_eq_some_iff.mp h
  refine r_getR (dc_X9_would 9 rfl) fl_RX9_32 e0 ?_
  refine r_iload_n (dc_X9_would 10 rfl) rfl rfl ?_
  refine r_iload_n (dc_X9_would 11 rfl) rfl rfl ?_
  refine r_iload_n (dc_X9_would 12 rfl) rfl rfl ?_
  obtain ⟨x5, s4, e0, h⟩ := wb_some h
  refine r_callV (dc_X9_would 13 rfl) mv_X5_wouldCarry ml_RX9_268 (As := [.int xa1, .int xa2, .int xa3]) (t_X5_wouldCarry (d := d - 1) hl (by omega) e0) (by omega) rfl (Nat.le_of_ble_eq_true rfl) ?_
  cases h
  exact r_ireturn (dc_X9_would 14 rfl) rfl
theorem t_X9_event {G : Gx} {d : Nat} (hl : G.1.stackTraces = false) (hd : 7 ≤ d) {σ : Sto} {a0 : Nat} {xa1 : Int32} {xa2 : Int32} {r : ((Int32 ⊕ String) × Sto)} (h : F_X9_event σ a0 xa1 xa2 = some r) : Mi G d m_X9_event 9 a0 [.int xa1, .int xa2] σ (toI r.1) r.2 := by
  rw [F_X9_event] at h
  obtain ⟨hg, h⟩ := chk_some h
  refine ⟨J.toMt (lo := [(0, .ref a0), (1, .int xa1), (2, .int xa2)]) pn_RX9 rfl hl (Nat.le_of_ble_eq_true rfl) rfl ?_, hg⟩
  refine r_aload_n (dc_X9_event 0 rfl) rfl rfl ?_
  refine r_iload_n (dc_X9_event 1 rfl) rfl rfl ?_
  rcases tb_some h with ⟨u0, s1, e0, h⟩ | ⟨E0, s1, e0, h⟩
  rotate_left
  · subst h
    exact r_callVX (dc_X9_event 2 rfl) mv_X9_needEvent ml_RX9_243 (As := [.int xa1]) (t_X9_needEvent (d := d - 1) hl (by omega) e0) (by omega) rfl (Nat.le_of_ble_eq_true rfl) rfl
  refine r_callV (dc_X9_event 2 rfl) mv_X9_needEvent ml_RX9_243 (As := [.int xa1]) (t_X9_needEvent (d := d - 1) hl (by omega) e0) (by omega) rfl (Nat.le_of_ble_eq_true rfl) ?_
  refine r_aload_n (dc_X9_event 3 rfl) rfl rfl ?_
  refine r_iload_n (dc_X9_event 4 rfl) rfl rfl ?_
  refine r_bipush (dc_X9_event 5 rfl) kbipush_9 ?_
  rcases tb_some h with ⟨u0, s2, e0, h⟩ | ⟨E0, s2, e0, h⟩
  rotate_left
  · subst h
    exact r_callVX (dc_X9_event 6 rfl) mv_X9_needWhat ml_RX9_166 (As := [.int xa2, .int (9 : Int32)]) (t_X9_needWhat (d := d - 1) hl (by omega) e0) (by omega) rfl (Nat.le_of_ble_eq_true rfl) rfl
  refine r_callV (dc_X9_event 6 rfl) mv_X9_needWhat ml_RX9_166 (As := [.int xa2, .int (9 : Int32)]) (t_X9_needWhat (d := d - 1) hl (by omega) e0) (by omega) rfl (Nat.le_of_ble_eq_true rfl) ?_
  refine r_aload_n (dc_X9_event 7 rfl) rfl rfl ?_
  obtain ⟨p3, e0, h⟩ := Option.bind_eq_some_iff.mp h
  refine r_getR (dc_X9_event 8 rfl) fl_RX9_12 e0 ?_
  obtain ⟨p4, e0, h⟩ := Option.bind_eq_some_iff.mp h
  refine r_getR (dc_X9_event 9 rfl) fl_RX9_84 e0 ?_
  refine r_astore_n (dc_X9_event 10 rfl) rfl (by decide) (lo' := [(3, .ref p4), (0, .ref a0), (1, .int xa1), (2, .int xa2)]) rfl ?_
  refine r_iload_n (dc_X9_event 11 rfl) rfl rfl ?_
  by_cases c0 : xa2 = (0 : Int32)
  · rw [if_pos c0] at h
    refine r_tsInE c0 (dc_X9_event 12 rfl) (tgt := 68) (off := 47) (by decide) (by decide) (by decide) (by decide) ?_
    refine r_aload_n (dc_X9_event 13 rfl) rfl rfl ?_
    obtain ⟨p5, e0, h⟩ := Option.bind_eq_some_iff.mp h
    refine r_getR (dc_X9_event 14 rfl) fl_RX9_271 e0 ?_
    refine r_iload_n (dc_X9_event 15 rfl) rfl rfl ?_
    obtain ⟨x6, e0, h⟩ := Option.bind_eq_some_iff.mp h
    refine r_iald (dc_X9_event 16 rfl) e0 ?_
    cases h
    exact r_ireturn (dc_X9_event 17 rfl) rfl
  rw [if_neg c0] at h
  by_cases c1 : xa2 = (1 : Int32)
  · rw [if_pos c1] at h
    refine r_tsInE c1 (dc_X9_event 12 rfl) (tgt := 75) (off := 54) (by decide) (by decide) (by decide) (by decide) ?_
    refine r_aload_n (dc_X9_event 18 rfl) rfl rfl ?_
    obtain ⟨p7, e0, h⟩ := Option.bind_eq_some_iff.mp h
    refine r_getR (dc_X9_event 19 rfl) fl_RX9_274 e0 ?_
    refine r_iload_n (dc_X9_event 20 rfl) rfl rfl ?_
    obtain ⟨x8, e0, h⟩ := Option.bind_eq_some_iff.mp h
    refine r_iald (dc_X9_event 21 rfl) e0 ?_
    cases h
    exact r_ireturn (dc_X9_event 22 rfl) rfl
  rw [if_neg c1] at h
  by_cases c2 : xa2 = (2 : Int32)
  · rw [if_pos c2] at h
    refine r_tsInE c2 (dc_X9_event 12 rfl) (tgt := 82) (off := 61) (by decide) (by decide) (by decide) (by decide) ?_
    refine r_aload_n (dc_X9_event 23 rfl) rfl rfl ?_
    refine r_iload_n (dc_X9_event 24 rfl) rfl rfl ?_
    obtain ⟨x9, e0, h⟩ := Option.bind_eq_some_iff.mp h
    refine r_callV (dc_X9_event 25 rfl) mv_X2_isOut ml_RX9_277 (As := [.int xa1]) (t_X2_isOut (d := d - 1) hl (by omega) e0) (by omega) rfl (Nat.le_of_ble_eq_true rfl) ?_
    refine r_if_eq (dc_X9_event 26 rfl) (tgt := 94) (by decide) (fun c0 => ?_) (fun c0 => ?_)
    · rw [if_pos c0] at h
      refine r_iconst (dc_X9_event 29 rfl) kiconst_0 ?_
      cases h
      exact r_ireturn (dc_X9_event 30 rfl) rfl
    · rw [if_neg c0] at h
      refine r_iconst (dc_X9_event 27 rfl) kiconst_1 ?_
      refine r_goto (dc_X9_event 28 rfl) (tgt := 95) (by decide) ?_
      cases h
      exact r_ireturn (dc_X9_event 30 rfl) rfl
  rw [if_neg c2] at h
  by_cases c3 : xa2 = (3 : Int32)
  · rw [if_pos c3] at h
    refine r_tsInE c3 (dc_X9_event 12 rfl) (tgt := 96) (off := 75) (by decide) (by decide) (by decide) (by decide) ?_
    refine r_aload_n (dc_X9_event 31 rfl) rfl rfl ?_
    obtain ⟨p10, e0, h⟩ := Option.bind_eq_some_iff.mp h
    refine r_getR (dc_X9_event 32 rfl) fl_RX9_280 e0 ?_
    refine r_iload_n (dc_X9_event 33 rfl) rfl rfl ?_
    obtain ⟨x11, e0, h⟩ := Option.bind_eq_some_iff.mp h
    refine r_iald (dc_X9_event 34 rfl) e0 ?_
    cases h
    exact r_ireturn (dc_X9_event 35 rfl) rfl
  rw [if_neg c3] at h
  by_cases c4 : xa2 = (4 : Int32)
  · rw [if_pos c4] at h
    refine r_tsInE c4 (dc_X9_event 12 rfl) (tgt := 103) (off := 82) (by decide) (by decide) (by decide) (by decide) ?_
    refine r_aload_n (dc_X9_event 36 rfl) rfl rfl ?_
    obtain ⟨p12, e0, h⟩ := Option.bind_eq_some_iff.mp h
    refine r_getR (dc_X9_event 37 rfl) fl_RX9_226 e0 ?_
    refine r_iload_n (dc_X9_event 38 rfl) rfl rfl ?_
    obtain ⟨x13, e0, h⟩ := Option.bind_eq_some_iff.mp h
    refine r_iald (dc_X9_event 39 rfl) e0 ?_
    cases h
    exact r_ireturn (dc_X9_event 40 rfl) rfl
  rw [if_neg c4] at h
  by_cases c5 : xa2 = (5 : Int32)
  · rw [if_pos c5] at h
    refine r_tsInE c5 (dc_X9_event 12 rfl) (tgt := 110) (off := 89) (by decide) (by decide) (by decide) (by decide) ?_
    refine r_aload_n (dc_X9_event 41 rfl) rfl rfl ?_
    obtain ⟨p14, e0, h⟩ := Option.bind_eq_some_iff.mp h
    refine r_getR (dc_X9_event 42 rfl) fl_RX9_12 e0 ?_
    refine r_iload_n (dc_X9_event 43 rfl) rfl rfl ?_
    obtain ⟨x15, e0, h⟩ := Option.bind_eq_some_iff.mp h
    refine r_callV (dc_X9_event 44 rfl) mv_X8_holders ml_RX9_283 (As := [.int xa1]) (t_X8_holders (d := d - 1) hl (by omega) e0) (by omega) rfl (Nat.le_of_ble_eq_true rfl) ?_
    cases h
    exact r_ireturn (dc_X9_event 45 rfl) rfl
  rw [if_neg c5] at h
  by_cases c6 : xa2 = (6 : Int32)
  · rw [if_pos c6] at h
    refine r_tsInE c6 (dc_X9_event 12 rfl) (tgt := 119) (off := 98) (by decide) (by decide) (by decide) (by decide) ?_
    refine r_aload_n (dc_X9_event 46 rfl) rfl rfl ?_
    obtain ⟨p16, e0, h⟩ := Option.bind_eq_some_iff.mp h
    refine r_getR (dc_X9_event 47 rfl) fl_RX9_12 e0 ?_
    refine r_iload_n (dc_X9_event 48 rfl) rfl rfl ?_
    obtain ⟨x17, e0, h⟩ := Option.bind_eq_some_iff.mp h
    refine r_callV (dc_X9_event 49 rfl) mv_X8_logsWith ml_RX9_286 (As := [.int xa1]) (t_X8_logsWith (d := d - 1) hl (by omega) e0) (by omega) rfl (Nat.le_of_ble_eq_true rfl) ?_
    cases h
    exact r_ireturn (dc_X9_event 50 rfl) rfl
  rw [if_neg c6] at h
  by_cases c7 : xa2 = (7 : Int32)
  · rw [if_pos c7] at h
    refine r_tsInE c7 (dc_X9_event 12 rfl) (tgt := 128) (off := 107) (by decide) (by decide) (by decide) (by decide) ?_
    refine r_aload_n (dc_X9_event 51 rfl) rfl rfl ?_
    obtain ⟨p18, e0, h⟩ := Option.bind_eq_some_iff.mp h
    refine r_getR (dc_X9_event 52 rfl) fl_RX9_289 e0 ?_
    refine r_iload_n (dc_X9_event 53 rfl) rfl rfl ?_
    obtain ⟨x19, e0, h⟩ := Option.bind_eq_some_iff.mp h
    refine r_iald (dc_X9_event 54 rfl) e0 ?_
    cases h
    exact r_ireturn (dc_X9_event 55 rfl) rfl
  rw [if_neg c7] at h
  refine r_tsOut (dc_X9_event 12 rfl) (tgt := 135) (ts_out (n := 8) (fun k hk => match k, hk with | 0, _ => c0 | 1, _ => c1 | 2, _ => c2 | 3, _ => c3 | 4, _ => c4 | 5, _ => c5 | 6, _ => c6 | 7, _ => c7 | k + 8, hk => absurd hk (by omega)) (by decide)) (by decide) ?_
  refine r_aload_n (dc_X9_event 56 rfl) rfl rfl ?_
  refine r_iload_n (dc_X9_event 57 rfl) rfl rfl ?_
  obtain ⟨x20, e0, h⟩ := Option.bind_eq_some_iff.mp h
  refine r_callV (dc_X9_event 58 rfl) mv_X2_concurrentWith ml_RX9_292 (As := [.int xa1]) (t_X2_concurrentWith (d := d - 1) hl (by omega) e0) (by omega) rfl (Nat.le_of_ble_eq_true rfl) ?_
  cases h
  exact r_ireturn (dc_X9_event 59 rfl) rfl
theorem t_X9_ahead {G : Gx} {d : Nat} (hl : G.1.stackTraces = false) (hd : 7 ≤ d) {σ : Sto} {a0 : Nat} {xa1 : Int32} {xa2 : Int32} {r : ((Int32 ⊕ String) × Sto)} (h : F_X9_ahead σ a0 xa1 xa2 = some r) : Mi G d m_X9_ahead 9 a0 [.int xa1, .int xa2] σ (toI r.1) r.2 := by
  rw [F_X9_ahead] at h
  obtain ⟨hg, h⟩ := chk_some h
  refine ⟨J.toMt (lo := [(0, .ref a0), (1, .int xa1), (2, .int xa2)]) pn_RX9 rfl hl (Nat.le_of_ble_eq_true rfl) rfl ?_, hg⟩
  refine r_aload_n (dc_X9_ahead 0 rfl) rfl rfl ?_
  refine r_iload_n (dc_X9_ahead 1 rfl) rfl rfl ?_
  rcases tb_some h with ⟨u0, s1, e0, h⟩ | ⟨E0, s1, e0, h⟩
  rotate_left
  · subst h
    exact r_callVX (dc_X9_ahead 2 rfl) mv_X9_needEvent ml_RX9_243 (As := [.int xa1]) (t_X9_needEvent (d := d - 1) hl (by omega) e0) (by omega) rfl (Nat.le_of_ble_eq_true rfl) rfl
  refine r_callV (dc_X9_ahead 2 rfl) mv_X9_needEvent ml_RX9_243 (As := [.int xa1]) (t_X9_needEvent (d := d - 1) hl (by omega) e0) (by omega) rfl (Nat.le_of_ble_eq_true rfl) ?_
  refine r_aload_n (dc_X9_ahead 3 rfl) rfl rfl ?_
  refine r_iload_n (dc_X9_ahead 4 rfl) rfl rfl ?_
  rcases tb_some h with ⟨u0, s2, e0, h⟩ | ⟨E0, s2, e0, h⟩
  rotate_left
  · subst h
    exact r_callVX (dc_X9_ahead 5 rfl) mv_X9_needEvent ml_RX9_243 (As := [.int xa2]) (t_X9_needEvent (d := d - 1) hl (by omega) e0) (by omega) rfl (Nat.le_of_ble_eq_true rfl) rfl
  refine r_callV (dc_X9_ahead 5 rfl) mv_X9_needEvent ml_RX9_243 (As := [.int xa2]) (t_X9_needEvent (d := d - 1) hl (by omega) e0) (by omega) rfl (Nat.le_of_ble_eq_true rfl) ?_
  refine r_aload_n (dc_X9_ahead 6 rfl) rfl rfl ?_
  obtain ⟨p3, e0, h⟩ := Option.bind_eq_some_iff.mp h
  refine r_getR (dc_X9_ahead 7 rfl) fl_RX9_12 e0 ?_
  obtain ⟨p4, e0, h⟩ := Option.bind_eq_some_iff.mp h
  refine r_getR (dc_X9_ahead 8 rfl) fl_RX9_84 e0 ?_
  refine r_iload_n (dc_X9_ahead 9 rfl) rfl rfl ?_
  refine r_iload_n (dc_X9_ahead 10 rfl) rfl rfl ?_
  obtain ⟨x5, e0, h⟩ := Option.bind_eq_some_iff.mp h
  refine r_callV (dc_X9_ahead 11 rfl) mv_X2_isAhead ml_RX9_295 (As := [.int xa1, .int xa2]) (t_X2_isAhead (d := d - 1) hl (by omega) e0) (by omega) rfl (Nat.le_of_ble_eq_true rfl) ?_
  split at h
  · rename_i c0
    cases h
    exact r_zreturn (dc_X9_ahead 12 rfl) rfl c0
  · cases h
theorem t_X9_wide {G : Gx} {d : Nat} (hl : G.1.stackTraces = false) (hd : 7 ≤ d) {σ : Sto} {a0 : Nat} {xa1 : Int32} {r : ((Int32 ⊕ String) × Sto)} (h : F_X9_wide σ a0 xa1 = some r) : Mi G d m_X9_wide 9 a0 [.int xa1] σ (toI r.1) r.2 := by
  rw [F_X9_wide] at h
  obtain ⟨hg, h⟩ := chk_some h
  refine ⟨J.toMt (lo := [(0, .ref a0), (1, .int xa1)]) pn_RX9 rfl hl (Nat.le_of_ble_eq_true rfl) rfl ?_, hg⟩
  refine r_aload_n (dc_X9_wide 0 rfl) rfl rfl ?_
  refine r_iload_n (dc_X9_wide 1 rfl) rfl rfl ?_
  refine r_iconst (dc_X9_wide 2 rfl) kiconst_3 ?_
  rcases tb_some h with ⟨u0, s1, e0, h⟩ | ⟨E0, s1, e0, h⟩
  rotate_left
  · subst h
    exact r_callVX (dc_X9_wide 3 rfl) mv_X9_needWhat ml_RX9_166 (As := [.int xa1, .int (3 : Int32)]) (t_X9_needWhat (d := d - 1) hl (by omega) e0) (by omega) rfl (Nat.le_of_ble_eq_true rfl) rfl
  refine r_callV (dc_X9_wide 3 rfl) mv_X9_needWhat ml_RX9_166 (As := [.int xa1, .int (3 : Int32)]) (t_X9_needWhat (d := d - 1) hl (by omega) e0) (by omega) rfl (Nat.le_of_ble_eq_true rfl) ?_
  refine r_iload_n (dc_X9_wide 4 rfl) rfl rfl ?_
  refine r_if_ne (dc_X9_wide 5 rfl) (tgt := 21) (by decide) (fun c0 => ?_) (fun c0 => ?_)
  · rw [if_neg c0] at h
    refine r_aload_n (dc_X9_wide 11 rfl) rfl rfl ?_
    obtain ⟨p2, e0, h⟩ := Option.bind_eq_some_iff.mp h
    refine r_getR (dc_X9_wide 12 rfl) fl_RX9_12 e0 ?_
    obtain ⟨p3, e0, h⟩ := Option.bind_eq_some_iff.mp h
    refine r_getR (dc_X9_wide 13 rfl) fl_RX9_84 e0 ?_
    obtain ⟨x4, e0, h⟩ := Option.bind_eq_some_iff.mp h
    refine r_callV (dc_X9_wide 14 rfl) mv_X2_highest ml_RX9_301 (As := []) (t_X2_highest (d := d - 1) hl (by omega) e0) (by omega) rfl (Nat.le_of_ble_eq_true rfl) ?_
    refine r_istore_n (dc_X9_wide 15 rfl) rfl (by decide) (lo' := [(2, .int x4), (0, .ref a0), (1, .int xa1)]) rfl ?_
    refine r_iload_n (dc_X9_wide 16 rfl) rfl rfl ?_
    refine r_iconst (dc_X9_wide 17 rfl) kiconst_2 ?_
    refine r_icmp_ne (dc_X9_wide 18 rfl) (tgt := 39) (by decide) (fun c0 => ?_) (fun c0 => ?_)
    · rw [if_neg c0] at h
      refine r_iload_n (dc_X9_wide 21 rfl) rfl rfl ?_
      refine r_iconst (dc_X9_wide 22 rfl) kiconst_m1 ?_
      refine r_icmp_ne (dc_X9_wide 23 rfl) (tgt := 48) (by decide) (fun c0 => ?_) (fun c0 => ?_)
      · rw [if_neg c0] at h
        refine r_aload_n (dc_X9_wide 26 rfl) rfl rfl ?_
        obtain ⟨p5, e0, h⟩ := Option.bind_eq_some_iff.mp h
        refine r_getR (dc_X9_wide 27 rfl) fl_RX9_12 e0 ?_
        obtain ⟨p6, e0, h⟩ := Option.bind_eq_some_iff.mp h
        refine r_getR (dc_X9_wide 28 rfl) fl_RX9_84 e0 ?_
        obtain ⟨p7, e0, h⟩ := Option.bind_eq_some_iff.mp h
        refine r_getR (dc_X9_wide 29 rfl) fl_RX9_289 e0 ?_
        refine r_iload_n (dc_X9_wide 30 rfl) rfl rfl ?_
        obtain ⟨x8, e0, h⟩ := Option.bind_eq_some_iff.mp h
        refine r_iald (dc_X9_wide 31 rfl) e0 ?_
        cases h
        exact r_ireturn (dc_X9_wide 32 rfl) rfl
      · rw [if_pos c0] at h
        refine r_iconst (dc_X9_wide 24 rfl) kiconst_0 ?_
        refine r_goto (dc_X9_wide 25 rfl) (tgt := 60) (by decide) ?_
        cases h
        exact r_ireturn (dc_X9_wide 32 rfl) rfl
    · rw [if_pos c0] at h
      refine r_iload_n (dc_X9_wide 19 rfl) rfl rfl ?_
      cases h
      exact r_ireturn (dc_X9_wide 20 rfl) rfl
  · rw [if_pos c0] at h
    refine r_aload_n (dc_X9_wide 6 rfl) rfl rfl ?_
    obtain ⟨p9, e0, h⟩ := Option.bind_eq_some_iff.mp h
    refine r_getR (dc_X9_wide 7 rfl) fl_RX9_12 e0 ?_
    obtain ⟨p10, e0, h⟩ := Option.bind_eq_some_iff.mp h
    refine r_getR (dc_X9_wide 8 rfl) fl_RX9_84 e0 ?_
    obtain ⟨x11, e0, h⟩ := Option.bind_eq_some_iff.mp h
    refine r_callV (dc_X9_wide 9 rfl) mv_X2_concurrentCouples ml_RX9_298 (As := []) (t_X2_concurrentCouples (d := d - 1) hl (by omega) e0) (by omega) rfl (Nat.le_of_ble_eq_true rfl) ?_
    cases h
    exact r_ireturn (dc_X9_wide 10 rfl) rfl
theorem t_X9_came {G : Gx} {d : Nat} (hl : G.1.stackTraces = false) (hd : 7 ≤ d) {σ : Sto} {a0 : Nat} {xa1 : Int32} {xa2 : Int32} {xa3 : Int32} {r : ((Int32 ⊕ String) × Sto)} (h : F_X9_came σ a0 xa1 xa2 xa3 = some r) : Mi G d m_X9_came 9 a0 [.int xa1, .int xa2, .int xa3] σ (toI r.1) r.2 := by
  rw [F_X9_came] at h
  obtain ⟨hg, h⟩ := chk_some h
  refine ⟨J.toMt (lo := [(0, .ref a0), (1, .int xa1), (2, .int xa2), (3, .int xa3)]) pn_RX9 rfl hl (Nat.le_of_ble_eq_true rfl) rfl ?_, hg⟩
  refine r_aload_n (dc_X9_came 0 rfl) rfl rfl ?_
  refine r_iload_n (dc_X9_came 1 rfl) rfl rfl ?_
  rcases tb_some h with ⟨u0, s1, e0, h⟩ | ⟨E0, s1, e0, h⟩
  rotate_left
  · subst h
    exact r_callVX (dc_X9_came 2 rfl) mv_X9_needSite ml_RX9_67 (As := [.int xa1]) (t_X9_needSite (d := d - 1) hl (by omega) e0) (by omega) rfl (Nat.le_of_ble_eq_true rfl) rfl
  refine r_callV (dc_X9_came 2 rfl) mv_X9_needSite ml_RX9_67 (As := [.int xa1]) (t_X9_needSite (d := d - 1) hl (by omega) e0) (by omega) rfl (Nat.le_of_ble_eq_true rfl) ?_
  refine r_aload_n (dc_X9_came 3 rfl) rfl rfl ?_
  refine r_iload_n (dc_X9_came 4 rfl) rfl rfl ?_
  rcases tb_some h with ⟨u0, s2, e0, h⟩ | ⟨E0, s2, e0, h⟩
  rotate_left
  · subst h
    exact r_callVX (dc_X9_came 5 rfl) mv_X9_needEvent ml_RX9_243 (As := [.int xa2]) (t_X9_needEvent (d := d - 1) hl (by omega) e0) (by omega) rfl (Nat.le_of_ble_eq_true rfl) rfl
  refine r_callV (dc_X9_came 5 rfl) mv_X9_needEvent ml_RX9_243 (As := [.int xa2]) (t_X9_needEvent (d := d - 1) hl (by omega) e0) (by omega) rfl (Nat.le_of_ble_eq_true rfl) ?_
  refine r_aload_n (dc_X9_came 6 rfl) rfl rfl ?_
  refine r_iload_n (dc_X9_came 7 rfl) rfl rfl ?_
  refine r_iconst (dc_X9_came 8 rfl) kiconst_2 ?_
  rcases tb_some h with ⟨u0, s3, e0, h⟩ | ⟨E0, s3, e0, h⟩
  rotate_left
  · subst h
    exact r_callVX (dc_X9_came 9 rfl) mv_X9_needWhat ml_RX9_166 (As := [.int xa3, .int (2 : Int32)]) (t_X9_needWhat (d := d - 1) hl (by omega) e0) (by omega) rfl (Nat.le_of_ble_eq_true rfl) rfl
  refine r_callV (dc_X9_came 9 rfl) mv_X9_needWhat ml_RX9_166 (As := [.int xa3, .int (2 : Int32)]) (t_X9_needWhat (d := d - 1) hl (by omega) e0) (by omega) rfl (Nat.le_of_ble_eq_true rfl) ?_
  refine r_aload_n (dc_X9_came 10 rfl) rfl rfl ?_
  obtain ⟨p4, e0, h⟩ := Option.bind_eq_some_iff.mp h
  refine r_getR (dc_X9_came 11 rfl) fl_RX9_12 e0 ?_
  obtain ⟨p5, e0, h⟩ := Option.bind_eq_some_iff.mp h
  refine r_getR (dc_X9_came 12 rfl) fl_RX9_94 e0 ?_
  refine r_iload_n (dc_X9_came 13 rfl) rfl rfl ?_
  obtain ⟨p6, e0, h⟩ := Option.bind_eq_some_iff.mp h
  refine r_aaldR (dc_X9_came 14 rfl) (kd := 4) rfl e0 ?_
  refine r_astore (dc_X9_came 15 rfl) (by decide) (lo' := [(4, .ref p6), (0, .ref a0), (1, .int xa1), (2, .int xa2), (3, .int xa3)]) rfl ?_
  refine r_aload (dc_X9_came 16 rfl) rfl ?_
  obtain ⟨p7, e0, h⟩ := Option.bind_eq_some_iff.mp h
  refine r_getR (dc_X9_came 17 rfl) fl_RX9_180 e0 ?_
  refine r_iload_n (dc_X9_came 18 rfl) rfl rfl ?_
  obtain ⟨x8, e0, h⟩ := Option.bind_eq_some_iff.mp h
  refine r_callV (dc_X9_came 19 rfl) mv_X1_holds ml_RX9_104 (As := [.int xa2]) (t_X1_holds (d := d - 1) hl (by omega) e0) (by omega) rfl (Nat.le_of_ble_eq_true rfl) ?_
  refine r_if_ne (dc_X9_came 20 rfl) (tgt := 41) (by decide) (fun c0 => ?_) (fun c0 => ?_)
  · rw [if_neg c0] at h
    refine r_iload_n (dc_X9_came 23 rfl) rfl rfl ?_
    refine r_if_ne (dc_X9_came 24 rfl) (tgt := 55) (by decide) (fun c0 => ?_) (fun c0 => ?_)
    · rw [if_neg c0] at h
      refine r_aload (dc_X9_came 30 rfl) rfl ?_
      obtain ⟨p9, e0, h⟩ := Option.bind_eq_some_iff.mp h
      refine r_getR (dc_X9_came 31 rfl) fl_RX9_307 e0 ?_
      refine r_iload_n (dc_X9_came 32 rfl) rfl rfl ?_
      obtain ⟨x10, e0, h⟩ := Option.bind_eq_some_iff.mp h
      refine r_iald (dc_X9_came 33 rfl) e0 ?_
      cases h
      exact r_ireturn (dc_X9_came 34 rfl) rfl
    · rw [if_pos c0] at h
      refine r_aload (dc_X9_came 25 rfl) rfl ?_
      obtain ⟨p11, e0, h⟩ := Option.bind_eq_some_iff.mp h
      refine r_getR (dc_X9_came 26 rfl) fl_RX9_304 e0 ?_
      refine r_iload_n (dc_X9_came 27 rfl) rfl rfl ?_
      obtain ⟨x12, e0, h⟩ := Option.bind_eq_some_iff.mp h
      refine r_iald (dc_X9_came 28 rfl) e0 ?_
      refine r_goto (dc_X9_came 29 rfl) (tgt := 62) (by decide) ?_
      cases h
      exact r_ireturn (dc_X9_came 34 rfl) rfl
  · rw [if_pos c0] at h
    refine r_iconst (dc_X9_came 21 rfl) kiconst_m1 ?_
    cases h
    exact r_ireturn (dc_X9_came 22 rfl) rfl
