theorem l_X10_best_L29 {G : Gx} {d : Nat} (hl : G.1.stackTraces = false) (hd : 8 ≤ d) {pL0 : Nat} {xL1 : Int32} {r : (Int32 × Sto)} {k112 : Int32 → Sto → Option (Int32 × Sto)}
    (hk112 : ∀ (xL2 : Int32) (sL : Sto), k112 xL2 sL = some r → J G d m_X10_best 112 [(2, .int xL2)] [] sL (.inl (some (.int r.1))) r.2)
  : ∀ (f : Nat) (xL2 : Int32) (xL3 : Int32) (xL4 : Int32) (xL5 : Int32) (sL : Sto), F_X10_best_L29 pL0 xL1 f xL2 xL3 xL4 xL5 sL k112 = some r → J G d m_X10_best 29 [(0, .ref pL0), (1, .int xL1), (2, .int xL2), (3, .int xL3), (4, .int xL4), (5, .int xL5)] [] sL (.inl (some (.int r.1))) r.2 := by
  intro f
  induction f with
  | zero => intro xL2 xL3 xL4 xL5 sL h; rw [F_X10_best_L29] at h; cases h
  | succ f ih =>
    intro xL2 xL3 xL4 xL5 sL h
    rw [F_X10_best_L29] at h
    refine r_iload (dc_X10_best 19 rfl) rfl ?_
    refine r_aload_n (dc_X10_best 20 rfl) rfl rfl ?_
    obtain ⟨p3, e0, h⟩ := Option.bind_eq_some_iff.mp h
    refine r_getR (dc_X10_best 21 rfl) fl_RX10_14 e0 ?_
    refine r_iconst (dc_X10_best 22 rfl) kiconst_0 ?_
    obtain ⟨x4, e0, h⟩ := Option.bind_eq_some_iff.mp h
    refine r_iald (dc_X10_best 23 rfl) e0 ?_
    refine r_icmp_ge (dc_X10_best 24 rfl) (tgt := 112) (by decide) (fun c0 => ?_) (fun c0 => ?_)
    · rw [if_pos c0] at h
      refine r_pick [2] (lo' := [(2, .int xL2)]) rfl ?_
      exact hk112 _ _ h
    · rw [if_neg c0] at h
      refine r_iload (dc_X10_best 25 rfl) rfl ?_
      refine r_iload_n (dc_X10_best 26 rfl) rfl rfl ?_
      refine r_icmp_ne (dc_X10_best 27 rfl) (tgt := 49) (by decide) (fun c0 => ?_) (fun c0 => ?_)
      · rw [if_neg c0] at h
        refine r_aload_n (dc_X10_best 29 rfl) rfl rfl ?_
        refine r_iload_n (dc_X10_best 30 rfl) rfl rfl ?_
        refine r_iload (dc_X10_best 31 rfl) rfl ?_
        refine r_iconst (dc_X10_best 32 rfl) kiconst_1 ?_
        obtain ⟨x6, s5, e0, h⟩ := wb_some h
        refine r_callV (dc_X10_best 33 rfl) mv_X10_joiningNow ml_RX10_365 (As := [.int xL1, .int xL5, .int (1 : Int32)]) (t_X10_joiningNow (d := d - 1) hl (by omega) e0) (by omega) rfl (Nat.le_of_ble_eq_true rfl) ?_
        refine r_istore (dc_X10_best 34 rfl) (by decide) (lo' := [(6, .int x6), (0, .ref pL0), (1, .int xL1), (2, .int xL2), (3, .int xL3), (4, .int xL4), (5, .int xL5)]) rfl ?_
        refine r_aload_n (dc_X10_best 35 rfl) rfl rfl ?_
        refine r_iload_n (dc_X10_best 36 rfl) rfl rfl ?_
        refine r_iload (dc_X10_best 37 rfl) rfl ?_
        refine r_iconst (dc_X10_best 38 rfl) kiconst_0 ?_
        obtain ⟨x8, s7, e0, h⟩ := wb_some h
        refine r_callV (dc_X10_best 39 rfl) mv_X10_joiningNow ml_RX10_365 (As := [.int xL1, .int xL5, .int (0 : Int32)]) (t_X10_joiningNow (d := d - 1) hl (by omega) e0) (by omega) rfl (Nat.le_of_ble_eq_true rfl) ?_
        refine r_istore (dc_X10_best 40 rfl) (by decide) (lo' := [(7, .int x8), (6, .int x6), (0, .ref pL0), (1, .int xL1), (2, .int xL2), (3, .int xL3), (4, .int xL4), (5, .int xL5)]) rfl ?_
        refine r_iload_n (dc_X10_best 41 rfl) rfl rfl ?_
        refine r_iconst (dc_X10_best 42 rfl) kiconst_m1 ?_
        refine r_icmp_eq (dc_X10_best 43 rfl) (tgt := 96) (by decide) (fun c0 => ?_) (fun c0 => ?_)
        · rw [if_pos c0] at h
          refine r_iload (dc_X10_best 54 rfl) rfl ?_
          refine r_istore_n (dc_X10_best 55 rfl) rfl (by decide) (lo' := [(2, .int xL5), (7, .int x8), (6, .int x6), (0, .ref pL0), (1, .int xL1), (3, .int xL3), (4, .int xL4), (5, .int xL5)]) rfl ?_
          refine r_iload (dc_X10_best 56 rfl) rfl ?_
          refine r_istore_n (dc_X10_best 57 rfl) rfl (by decide) (lo' := [(3, .int x6), (2, .int xL5), (7, .int x8), (6, .int x6), (0, .ref pL0), (1, .int xL1), (4, .int xL4), (5, .int xL5)]) rfl ?_
          refine r_iload (dc_X10_best 58 rfl) rfl ?_
          refine r_istore (dc_X10_best 59 rfl) (by decide) (lo' := [(4, .int x8), (3, .int x6), (2, .int xL5), (7, .int x8), (6, .int x6), (0, .ref pL0), (1, .int xL1), (5, .int xL5)]) rfl ?_
          refine r_iinc (dc_X10_best 60 rfl) rfl (kinc_1 _) (by decide) (lo' := [(5, .int (xL5 + (1 : Int32))), (4, .int x8), (3, .int x6), (2, .int xL5), (7, .int x8), (6, .int x6), (0, .ref pL0), (1, .int xL1)]) rfl ?_
          refine r_goto (dc_X10_best 61 rfl) (tgt := 29) (by decide) ?_
          refine r_pick [6, 7, 3, 2, 1, 0] (lo' := [(0, .ref pL0), (1, .int xL1), (2, .int xL5), (3, .int x6), (4, .int x8), (5, .int (xL5 + (1 : Int32)))]) rfl ?_
          exact ih _ _ _ _ _ h
        · rw [if_neg c0] at h
          refine r_iload (dc_X10_best 44 rfl) rfl ?_
          refine r_iload_n (dc_X10_best 45 rfl) rfl rfl ?_
          refine r_icmp_gt (dc_X10_best 46 rfl) (tgt := 106) (by decide) (fun c0 => ?_) (fun c0 => ?_)
          · rw [if_pos c0] at h
            refine r_iinc (dc_X10_best 60 rfl) rfl (kinc_1 _) (by decide) (lo' := [(5, .int (xL5 + (1 : Int32))), (7, .int x8), (6, .int x6), (0, .ref pL0), (1, .int xL1), (2, .int xL2), (3, .int xL3), (4, .int xL4)]) rfl ?_
            refine r_goto (dc_X10_best 61 rfl) (tgt := 29) (by decide) ?_
            refine r_pick [3, 4, 5, 6, 7, 0] (lo' := [(0, .ref pL0), (1, .int xL1), (2, .int xL2), (3, .int xL3), (4, .int xL4), (5, .int (xL5 + (1 : Int32)))]) rfl ?_
            exact ih _ _ _ _ _ h
          · rw [if_neg c0] at h
            refine r_iload (dc_X10_best 47 rfl) rfl ?_
            refine r_iload_n (dc_X10_best 48 rfl) rfl rfl ?_
            refine r_icmp_ne (dc_X10_best 49 rfl) (tgt := 96) (by decide) (fun c0 => ?_) (fun c0 => ?_)
            · rw [if_neg c0] at h
              refine r_iload (dc_X10_best 54 rfl) rfl ?_
              refine r_istore_n (dc_X10_best 55 rfl) rfl (by decide) (lo' := [(2, .int xL5), (7, .int x8), (6, .int x6), (0, .ref pL0), (1, .int xL1), (3, .int xL3), (4, .int xL4), (5, .int xL5)]) rfl ?_
              refine r_iload (dc_X10_best 56 rfl) rfl ?_
              refine r_istore_n (dc_X10_best 57 rfl) rfl (by decide) (lo' := [(3, .int x6), (2, .int xL5), (7, .int x8), (6, .int x6), (0, .ref pL0), (1, .int xL1), (4, .int xL4), (5, .int xL5)]) rfl ?_
              refine r_iload (dc_X10_best 58 rfl) rfl ?_
              refine r_istore (dc_X10_best 59 rfl) (by decide) (lo' := [(4, .int x8), (3, .int x6), (2, .int xL5), (7, .int x8), (6, .int x6), (0, .ref pL0), (1, .int xL1), (5, .int xL5)]) rfl ?_
              refine r_iinc (dc_X10_best 60 rfl) rfl (kinc_1 _) (by decide) (lo' := [(5, .int (xL5 + (1 : Int32))), (4, .int x8), (3, .int x6), (2, .int xL5), (7, .int x8), (6, .int x6), (0, .ref pL0), (1, .int xL1)]) rfl ?_
              refine r_goto (dc_X10_best 61 rfl) (tgt := 29) (by decide) ?_
              refine r_pick [6, 7, 3, 2, 1, 0] (lo' := [(0, .ref pL0), (1, .int xL1), (2, .int xL5), (3, .int x6), (4, .int x8), (5, .int (xL5 + (1 : Int32)))]) rfl ?_
              exact ih _ _ _ _ _ h
            · rw [if_pos c0] at h
              refine r_iload (dc_X10_best 50 rfl) rfl ?_
              refine r_iload (dc_X10_best 51 rfl) rfl ?_
              refine r_icmp_gt (dc_X10_best 52 rfl) (tgt := 96) (by decide) (fun c0 => ?_) (fun c0 => ?_)
              · rw [if_pos c0] at h
                refine r_iload (dc_X10_best 54 rfl) rfl ?_
                refine r_istore_n (dc_X10_best 55 rfl) rfl (by decide) (lo' := [(2, .int xL5), (7, .int x8), (6, .int x6), (0, .ref pL0), (1, .int xL1), (3, .int xL3), (4, .int xL4), (5, .int xL5)]) rfl ?_
                refine r_iload (dc_X10_best 56 rfl) rfl ?_
                refine r_istore_n (dc_X10_best 57 rfl) rfl (by decide) (lo' := [(3, .int x6), (2, .int xL5), (7, .int x8), (6, .int x6), (0, .ref pL0), (1, .int xL1), (4, .int xL4), (5, .int xL5)]) rfl ?_
                refine r_iload (dc_X10_best 58 rfl) rfl ?_
                refine r_istore (dc_X10_best 59 rfl) (by decide) (lo' := [(4, .int x8), (3, .int x6), (2, .int xL5), (7, .int x8), (6, .int x6), (0, .ref pL0), (1, .int xL1), (5, .int xL5)]) rfl ?_
                refine r_iinc (dc_X10_best 60 rfl) rfl (kinc_1 _) (by decide) (lo' := [(5, .int (xL5 + (1 : Int32))), (4, .int x8), (3, .int x6), (2, .int xL5), (7, .int x8), (6, .int x6), (0, .ref pL0), (1, .int xL1)]) rfl ?_
                refine r_goto (dc_X10_best 61 rfl) (tgt := 29) (by decide) ?_
                refine r_pick [6, 7, 3, 2, 1, 0] (lo' := [(0, .ref pL0), (1, .int xL1), (2, .int xL5), (3, .int x6), (4, .int x8), (5, .int (xL5 + (1 : Int32)))]) rfl ?_
                exact ih _ _ _ _ _ h
              · rw [if_neg c0] at h
                refine r_goto (dc_X10_best 53 rfl) (tgt := 106) (by decide) ?_
                refine r_iinc (dc_X10_best 60 rfl) rfl (kinc_1 _) (by decide) (lo' := [(5, .int (xL5 + (1 : Int32))), (7, .int x8), (6, .int x6), (0, .ref pL0), (1, .int xL1), (2, .int xL2), (3, .int xL3), (4, .int xL4)]) rfl ?_
                refine r_goto (dc_X10_best 61 rfl) (tgt := 29) (by decide) ?_
                refine r_pick [3, 4, 5, 6, 7, 0] (lo' := [(0, .ref pL0), (1, .int xL1), (2, .int xL2), (3, .int xL3), (4, .int xL4), (5, .int (xL5 + (1 : Int32)))]) rfl ?_
                exact ih _ _ _ _ _ h
      · rw [if_pos c0] at h
        refine r_goto (dc_X10_best 28 rfl) (tgt := 106) (by decide) ?_
        refine r_iinc (dc_X10_best 60 rfl) rfl (kinc_1 _) (by decide) (lo' := [(5, .int (xL5 + (1 : Int32))), (0, .ref pL0), (1, .int xL1), (2, .int xL2), (3, .int xL3), (4, .int xL4)]) rfl ?_
        refine r_goto (dc_X10_best 61 rfl) (tgt := 29) (by decide) ?_
        refine r_pick [1, 2, 3, 4, 5, 0] (lo' := [(0, .ref pL0), (1, .int xL1), (2, .int xL2), (3, .int xL3), (4, .int xL4), (5, .int (xL5 + (1 : Int32)))]) rfl ?_
        exact ih _ _ _ _ _ h
theorem t_X10_best {G : Gx} {d : Nat} (hl : G.1.stackTraces = false) (hd : 8 ≤ d) {σ : Sto} {a0 : Nat} {xa1 : Int32} {r : (Int32 × Sto)} (h : F_X10_best σ a0 xa1 = some r) : Mi G d m_X10_best 10 a0 [.int xa1] σ (.inl (some (.int r.1))) r.2 := by
  rw [F_X10_best] at h
  obtain ⟨hg, h⟩ := chk_some h
  refine ⟨J.toMt (lo := [(0, .ref a0), (1, .int xa1)]) pn_RX10 rfl hl (Nat.le_of_ble_eq_true rfl) rfl ?_, hg⟩
  refine r_aload_n (dc_X10_best 0 rfl) rfl rfl ?_
  refine r_iconst (dc_X10_best 1 rfl) kiconst_0 ?_
  obtain ⟨s1, e0, h⟩ := Option.bind_eq_some_iff.mp h
  refine r_put (dc_X10_best 2 rfl) pl_RX10_1 rfl e0 ?_
  refine r_aload_n (dc_X10_best 3 rfl) rfl rfl ?_
  refine r_iload_n (dc_X10_best 4 rfl) rfl rfl ?_
  obtain ⟨x2, e0, h⟩ := Option.bind_eq_some_iff.mp h
  refine r_callV (dc_X10_best 5 rfl) mv_X10_isSite ml_RX10_93 (As := [.int xa1]) (t_X10_isSite (d := d - 1) hl (by omega) e0) (by omega) rfl (Nat.le_of_ble_eq_true rfl) ?_
  refine r_if_ne (dc_X10_best 6 rfl) (tgt := 19) (by decide) (fun c0 => ?_) (fun c0 => ?_)
  · rw [if_neg c0] at h
    refine r_iconst (dc_X10_best 11 rfl) kiconst_m1 ?_
    refine r_istore_n (dc_X10_best 12 rfl) rfl (by decide) (lo' := [(2, .int (-1 : Int32)), (0, .ref a0), (1, .int xa1)]) rfl ?_
    refine r_iconst (dc_X10_best 13 rfl) kiconst_0 ?_
    refine r_istore_n (dc_X10_best 14 rfl) rfl (by decide) (lo' := [(3, .int (0 : Int32)), (2, .int (-1 : Int32)), (0, .ref a0), (1, .int xa1)]) rfl ?_
    refine r_iconst (dc_X10_best 15 rfl) kiconst_0 ?_
    refine r_istore (dc_X10_best 16 rfl) (by decide) (lo' := [(4, .int (0 : Int32)), (3, .int (0 : Int32)), (2, .int (-1 : Int32)), (0, .ref a0), (1, .int xa1)]) rfl ?_
    refine r_iconst (dc_X10_best 17 rfl) kiconst_0 ?_
    refine r_istore (dc_X10_best 18 rfl) (by decide) (lo' := [(5, .int (0 : Int32)), (4, .int (0 : Int32)), (3, .int (0 : Int32)), (2, .int (-1 : Int32)), (0, .ref a0), (1, .int xa1)]) rfl ?_
    refine r_pick [4, 5, 3, 2, 1, 0] (lo' := [(0, .ref a0), (1, .int xa1), (2, .int (-1 : Int32)), (3, .int (0 : Int32)), (4, .int (0 : Int32)), (5, .int (0 : Int32))]) rfl ?_
    refine l_X10_best_L29 hl hd (hk112 := ?_) fu _ _ _ _ _ h
    · intro x9 s10 h
      refine r_iload_n (dc_X10_best 62 rfl) rfl rfl ?_
      cases h
      exact r_ireturn (dc_X10_best 63 rfl) rfl
  · rw [if_pos c0] at h
    refine r_aload_n (dc_X10_best 7 rfl) rfl rfl ?_
    refine r_iconst (dc_X10_best 8 rfl) kiconst_1 ?_
    obtain ⟨x12, s11, e0, h⟩ := wb_some h
    refine r_callV (dc_X10_best 9 rfl) mv_X10_fails ml_RX10_101 (As := [.int (1 : Int32)]) (t_X10_fails (d := d - 1) hl (by omega) e0) (by omega) rfl (Nat.le_of_ble_eq_true rfl) ?_
    cases h
    exact r_ireturn (dc_X10_best 10 rfl) rfl
theorem t_X10_maskIn {G : Gx} {d : Nat} (hl : G.1.stackTraces = false) (hd : 0 ≤ d) {σ : Sto} {xa0 : Int32} {xa1 : Int32} {r : Int32} (h : F_X10_maskIn xa0 xa1 = some r) : Mt G d m_X10_maskIn [.int xa0, .int xa1] σ (.inl (some (.int r))) σ := by
  rw [F_X10_maskIn] at h
  refine J.toMt (lo := [(0, .int xa0), (1, .int xa1)]) pn_RX10 rfl hl (Nat.le_of_ble_eq_true rfl) rfl ?_
  refine r_iload_n (dc_X10_maskIn 0 rfl) rfl rfl ?_
  refine r_iconst (dc_X10_maskIn 1 rfl) kiconst_3 ?_
  refine r_iload_n (dc_X10_maskIn 2 rfl) rfl rfl ?_
  refine r_imul (dc_X10_maskIn 3 rfl) ?_
  refine r_ishr (dc_X10_maskIn 4 rfl) ?_
  refine r_bipush (dc_X10_maskIn 5 rfl) kbipush_7 ?_
  refine r_iand (dc_X10_maskIn 6 rfl) ?_
  refine r_istore_n (dc_X10_maskIn 7 rfl) rfl (by decide) (lo' := [(2, .int ((xa0 >>> (((3 : Int32) * xa1) &&& 31)) &&& (7 : Int32))), (0, .int xa0), (1, .int xa1)]) rfl ?_
  refine r_iload_n (dc_X10_maskIn 8 rfl) rfl rfl ?_
  refine r_iconst (dc_X10_maskIn 9 rfl) kiconst_1 ?_
  refine r_iload_n (dc_X10_maskIn 10 rfl) rfl rfl ?_
  refine r_ishl (dc_X10_maskIn 11 rfl) ?_
  refine r_iconst (dc_X10_maskIn 12 rfl) kiconst_1 ?_
  refine r_isub (dc_X10_maskIn 13 rfl) ?_
  refine r_iand (dc_X10_maskIn 14 rfl) ?_
  refine r_istore_n (dc_X10_maskIn 15 rfl) rfl (by decide) (lo' := [(3, .int (((xa0 >>> (((3 : Int32) * xa1) &&& 31)) &&& (7 : Int32)) &&& (((1 : Int32) <<< (xa1 &&& 31)) - (1 : Int32)))), (2, .int ((xa0 >>> (((3 : Int32) * xa1) &&& 31)) &&& (7 : Int32))), (0, .int xa0), (1, .int xa1)]) rfl ?_
  refine r_iload_n (dc_X10_maskIn 16 rfl) rfl rfl ?_
  refine r_iconst (dc_X10_maskIn 17 rfl) kiconst_1 ?_
  refine r_iload_n (dc_X10_maskIn 18 rfl) rfl rfl ?_
  refine r_ishl (dc_X10_maskIn 19 rfl) ?_
  refine r_ior (dc_X10_maskIn 20 rfl) ?_
  refine r_iload_n (dc_X10_maskIn 21 rfl) rfl rfl ?_
  refine r_iload_n (dc_X10_maskIn 22 rfl) rfl rfl ?_
  refine r_ishr (dc_X10_maskIn 23 rfl) ?_
  refine r_iload_n (dc_X10_maskIn 24 rfl) rfl rfl ?_
  refine r_iconst (dc_X10_maskIn 25 rfl) kiconst_1 ?_
  refine r_iadd (dc_X10_maskIn 26 rfl) ?_
  refine r_ishl (dc_X10_maskIn 27 rfl) ?_
  refine r_ior (dc_X10_maskIn 28 rfl) ?_
  cases h
  exact r_ireturn (dc_X10_maskIn 29 rfl) rfl
theorem t_X10_withMask {G : Gx} {d : Nat} (hl : G.1.stackTraces = false) (hd : 0 ≤ d) {σ : Sto} {xa0 : Int32} {xa1 : Int32} {xa2 : Int32} {r : Int32} (h : F_X10_withMask xa0 xa1 xa2 = some r) : Mt G d m_X10_withMask [.int xa0, .int xa1, .int xa2] σ (.inl (some (.int r))) σ := by
  rw [F_X10_withMask] at h
  refine J.toMt (lo := [(0, .int xa0), (1, .int xa1), (2, .int xa2)]) pn_RX10 rfl hl (Nat.le_of_ble_eq_true rfl) rfl ?_
  refine r_iload_n (dc_X10_withMask 0 rfl) rfl rfl ?_
  refine r_iconst (dc_X10_withMask 1 rfl) kiconst_1 ?_
  refine r_iload_n (dc_X10_withMask 2 rfl) rfl rfl ?_
  refine r_ishl (dc_X10_withMask 3 rfl) ?_
  refine r_iconst (dc_X10_withMask 4 rfl) kiconst_1 ?_
  refine r_isub (dc_X10_withMask 5 rfl) ?_
  refine r_iand (dc_X10_withMask 6 rfl) ?_
  refine r_iload_n (dc_X10_withMask 7 rfl) rfl rfl ?_
  refine r_iload_n (dc_X10_withMask 8 rfl) rfl rfl ?_
  refine r_iconst (dc_X10_withMask 9 rfl) kiconst_1 ?_
  refine r_iadd (dc_X10_withMask 10 rfl) ?_
  refine r_ishr (dc_X10_withMask 11 rfl) ?_
  refine r_iload_n (dc_X10_withMask 12 rfl) rfl rfl ?_
  refine r_ishl (dc_X10_withMask 13 rfl) ?_
  refine r_ior (dc_X10_withMask 14 rfl) ?_
  refine r_istore_n (dc_X10_withMask 15 rfl) rfl (by decide) (lo' := [(3, .int ((xa2 &&& (((1 : Int32) <<< (xa1 &&& 31)) - (1 : Int32))) ||| ((xa2 >>> ((xa1 + (1 : Int32)) &&& 31)) <<< (xa1 &&& 31)))), (0, .int xa0), (1, .int xa1), (2, .int xa2)]) rfl ?_
  refine r_iload_n (dc_X10_withMask 16 rfl) rfl rfl ?_
  refine r_bipush (dc_X10_withMask 17 rfl) kbipush_7 ?_
  refine r_iconst (dc_X10_withMask 18 rfl) kiconst_3 ?_
  refine r_iload_n (dc_X10_withMask 19 rfl) rfl rfl ?_
  refine r_imul (dc_X10_withMask 20 rfl) ?_
  refine r_ishl (dc_X10_withMask 21 rfl) ?_
  refine r_iconst (dc_X10_withMask 22 rfl) kiconst_m1 ?_
  refine r_ixor (dc_X10_withMask 23 rfl) ?_
  refine r_iand (dc_X10_withMask 24 rfl) ?_
  refine r_iload_n (dc_X10_withMask 25 rfl) rfl rfl ?_
  refine r_iconst (dc_X10_withMask 26 rfl) kiconst_3 ?_
  refine r_iload_n (dc_X10_withMask 27 rfl) rfl rfl ?_
  refine r_imul (dc_X10_withMask 28 rfl) ?_
  refine r_ishl (dc_X10_withMask 29 rfl) ?_
  refine r_ior (dc_X10_withMask 30 rfl) ?_
  cases h
  exact r_ireturn (dc_X10_withMask 31 rfl) rfl
theorem l_X10_wordOf_L5 {G : Gx} {d : Nat} (hl : G.1.stackTraces = false) (hd : 1 ≤ d) {sL : Sto} {pL0 : Nat} {xL1 : Int32} {xL2 : Int32} {r : Int32} {k50 : Int32 → Option Int32}
    (hk50 : ∀ (xL3 : Int32), k50 xL3 = some r → J G d m_X10_wordOf 50 [(3, .int xL3)] [] sL (.inl (some (.int r))) sL)
  : ∀ (f : Nat) (xL3 : Int32) (xL4 : Int32), F_X10_wordOf_L5 sL pL0 xL1 xL2 f xL3 xL4 k50 = some r → J G d m_X10_wordOf 5 [(0, .ref pL0), (1, .int xL1), (2, .int xL2), (3, .int xL3), (4, .int xL4)] [] sL (.inl (some (.int r))) sL := by
  intro f
  induction f with
  | zero => intro xL3 xL4 h; rw [F_X10_wordOf_L5] at h; cases h
  | succ f ih =>
    intro xL3 xL4 h
    rw [F_X10_wordOf_L5] at h
    refine r_iload (dc_X10_wordOf 4 rfl) rfl ?_
    refine r_aload_n (dc_X10_wordOf 5 rfl) rfl rfl ?_
    obtain ⟨p1, e0, h⟩ := Option.bind_eq_some_iff.mp h
    refine r_getR (dc_X10_wordOf 6 rfl) fl_RX10_14 e0 ?_
    refine r_iconst (dc_X10_wordOf 7 rfl) kiconst_0 ?_
    obtain ⟨x2, e0, h⟩ := Option.bind_eq_some_iff.mp h
    refine r_iald (dc_X10_wordOf 8 rfl) e0 ?_
    refine r_icmp_ge (dc_X10_wordOf 9 rfl) (tgt := 50) (by decide) (fun c0 => ?_) (fun c0 => ?_)
    · rw [if_pos c0] at h
      refine r_pick [3] (lo' := [(3, .int xL3)]) rfl ?_
      exact hk50 _ h
    · rw [if_neg c0] at h
      refine r_iload_n (dc_X10_wordOf 10 rfl) rfl rfl ?_
      refine r_iload (dc_X10_wordOf 11 rfl) rfl ?_
      refine r_ishr (dc_X10_wordOf 12 rfl) ?_
      refine r_iconst (dc_X10_wordOf 13 rfl) kiconst_1 ?_
      refine r_iand (dc_X10_wordOf 14 rfl) ?_
      refine r_iconst (dc_X10_wordOf 15 rfl) kiconst_1 ?_
      refine r_icmp_ne (dc_X10_wordOf 16 rfl) (tgt := 44) (by decide) (fun c0 => ?_) (fun c0 => ?_)
      · rw [if_neg c0] at h
        refine r_iinc (dc_X10_wordOf 29 rfl) rfl (kinc_1 _) (by decide) (lo' := [(4, .int (xL4 + (1 : Int32))), (0, .ref pL0), (1, .int xL1), (2, .int xL2), (3, .int xL3)]) rfl ?_
        refine r_goto (dc_X10_wordOf 30 rfl) (tgt := 5) (by decide) ?_
        refine r_pick [1, 2, 3, 4, 0] (lo' := [(0, .ref pL0), (1, .int xL1), (2, .int xL2), (3, .int xL3), (4, .int (xL4 + (1 : Int32)))]) rfl ?_
        exact ih _ _ h
      · rw [if_pos c0] at h
        refine r_iload_n (dc_X10_wordOf 17 rfl) rfl rfl ?_
        refine r_aload_n (dc_X10_wordOf 18 rfl) rfl rfl ?_
        obtain ⟨p3, e0, h⟩ := Option.bind_eq_some_iff.mp h
        refine r_getR (dc_X10_wordOf 19 rfl) fl_RX10_14 e0 ?_
        refine r_iload (dc_X10_wordOf 20 rfl) rfl ?_
        obtain ⟨x4, e0, h⟩ := Option.bind_eq_some_iff.mp h
        refine r_callS (dc_X10_wordOf 21 rfl) ms_X10_stateOf ml_RX10_111 (As := [.int xL4]) (t_X10_stateOf (d := d - 1) hl (by omega) e0) (by omega) rfl (Nat.le_of_ble_eq_true rfl) ?_
        refine r_bipush (dc_X10_wordOf 22 rfl) kbipush_25 ?_
        refine r_iadd (dc_X10_wordOf 23 rfl) ?_
        refine r_iload_n (dc_X10_wordOf 24 rfl) rfl rfl ?_
        refine r_iadd (dc_X10_wordOf 25 rfl) ?_
        obtain ⟨x5, e0, h⟩ := Option.bind_eq_some_iff.mp h
        refine r_iald (dc_X10_wordOf 26 rfl) e0 ?_
        refine r_ior (dc_X10_wordOf 27 rfl) ?_
        refine r_istore_n (dc_X10_wordOf 28 rfl) rfl (by decide) (lo' := [(3, .int (xL3 ||| x5)), (0, .ref pL0), (1, .int xL1), (2, .int xL2), (4, .int xL4)]) rfl ?_
        refine r_iinc (dc_X10_wordOf 29 rfl) rfl (kinc_1 _) (by decide) (lo' := [(4, .int (xL4 + (1 : Int32))), (3, .int (xL3 ||| x5)), (0, .ref pL0), (1, .int xL1), (2, .int xL2)]) rfl ?_
        refine r_goto (dc_X10_wordOf 30 rfl) (tgt := 5) (by decide) ?_
        refine r_pick [2, 3, 4, 1, 0] (lo' := [(0, .ref pL0), (1, .int xL1), (2, .int xL2), (3, .int (xL3 ||| x5)), (4, .int (xL4 + (1 : Int32)))]) rfl ?_
        exact ih _ _ h
theorem t_X10_wordOf {G : Gx} {d : Nat} (hl : G.1.stackTraces = false) (hd : 1 ≤ d) {σ : Sto} {a0 : Nat} {xa1 : Int32} {xa2 : Int32} {r : Int32} (h : F_X10_wordOf σ a0 xa1 xa2 = some r) : Mi G d m_X10_wordOf 10 a0 [.int xa1, .int xa2] σ (.inl (some (.int r))) σ := by
  rw [F_X10_wordOf] at h
  obtain ⟨hg, h⟩ := chk_some h
  refine ⟨J.toMt (lo := [(0, .ref a0), (1, .int xa1), (2, .int xa2)]) pn_RX10 rfl hl (Nat.le_of_ble_eq_true rfl) rfl ?_, hg⟩
  refine r_iconst (dc_X10_wordOf 0 rfl) kiconst_0 ?_
  refine r_istore_n (dc_X10_wordOf 1 rfl) rfl (by decide) (lo' := [(3, .int (0 : Int32)), (0, .ref a0), (1, .int xa1), (2, .int xa2)]) rfl ?_
  refine r_iconst (dc_X10_wordOf 2 rfl) kiconst_0 ?_
  refine r_istore (dc_X10_wordOf 3 rfl) (by decide) (lo' := [(4, .int (0 : Int32)), (3, .int (0 : Int32)), (0, .ref a0), (1, .int xa1), (2, .int xa2)]) rfl ?_
  refine r_pick [2, 3, 4, 1, 0] (lo' := [(0, .ref a0), (1, .int xa1), (2, .int xa2), (3, .int (0 : Int32)), (4, .int (0 : Int32))]) rfl ?_
  refine l_X10_wordOf_L5 hl hd (hk50 := ?_) fu _ _ h
  · intro x6 h
    refine r_iload_n (dc_X10_wordOf 31 rfl) rfl rfl ?_
    cases h
    exact r_ireturn (dc_X10_wordOf 32 rfl) rfl
theorem l_X10_isAlike_L14 {G : Gx} {d : Nat} (hl : G.1.stackTraces = false) (hd : 2 ≤ d) {sL : Sto} {pL0 : Nat} {xL1 : Int32} {xL2 : Int32} {r : Int32} {k50 : Option Int32}
    (hk50 : k50  = some r → J G d m_X10_isAlike 50 [(0, .ref pL0), (1, .int xL1), (2, .int xL2)] [] sL (.inl (some (.int r))) sL)
  : ∀ (f : Nat) (xL3 : Int32), F_X10_isAlike_L14 sL pL0 xL1 xL2 f xL3 k50 = some r → J G d m_X10_isAlike 14 [(0, .ref pL0), (1, .int xL1), (2, .int xL2), (3, .int xL3)] [] sL (.inl (some (.int r))) sL := by
  intro f
  induction f with
  | zero => intro xL3 h; rw [F_X10_isAlike_L14] at h; cases h
  | succ f ih =>
    intro xL3 h
    rw [F_X10_isAlike_L14] at h
    refine r_iload_n (dc_X10_isAlike 10 rfl) rfl rfl ?_
    refine r_iconst (dc_X10_isAlike 11 rfl) kiconst_4 ?_
    refine r_icmp_ge (dc_X10_isAlike 12 rfl) (tgt := 50) (by decide) (fun c0 => ?_) (fun c0 => ?_)
    · rw [if_pos c0] at h
      refine r_pick [0, 1, 2] (lo' := [(0, .ref pL0), (1, .int xL1), (2, .int xL2)]) rfl ?_
      exact hk50  h
    · rw [if_neg c0] at h
      refine r_aload_n (dc_X10_isAlike 13 rfl) rfl rfl ?_
      refine r_iload_n (dc_X10_isAlike 14 rfl) rfl rfl ?_
      refine r_iload_n (dc_X10_isAlike 15 rfl) rfl rfl ?_
      obtain ⟨x3, e0, h⟩ := Option.bind_eq_some_iff.mp h
      refine r_callS (dc_X10_isAlike 16 rfl) ms_X10_maskIn ml_RX10_368 (As := [.int xL1, .int xL2]) (t_X10_maskIn (d := d - 1) hl (by omega) e0) (by omega) rfl (Nat.le_of_ble_eq_true rfl) ?_
      refine r_iload_n (dc_X10_isAlike 17 rfl) rfl rfl ?_
      obtain ⟨x4, e0, h⟩ := Option.bind_eq_some_iff.mp h
      refine r_callV (dc_X10_isAlike 18 rfl) mv_X10_wordOf ml_RX10_371 (As := [.int x3, .int xL3]) (t_X10_wordOf (d := d - 1) hl (by omega) e0) (by omega) rfl (Nat.le_of_ble_eq_true rfl) ?_
      refine r_aload_n (dc_X10_isAlike 19 rfl) rfl rfl ?_
      refine r_iload_n (dc_X10_isAlike 20 rfl) rfl rfl ?_
      refine r_iconst (dc_X10_isAlike 21 rfl) kiconst_0 ?_
      obtain ⟨x5, e0, h⟩ := Option.bind_eq_some_iff.mp h
      refine r_callS (dc_X10_isAlike 22 rfl) ms_X10_maskIn ml_RX10_368 (As := [.int xL1, .int (0 : Int32)]) (t_X10_maskIn (d := d - 1) hl (by omega) e0) (by omega) rfl (Nat.le_of_ble_eq_true rfl) ?_
      refine r_iload_n (dc_X10_isAlike 23 rfl) rfl rfl ?_
      obtain ⟨x6, e0, h⟩ := Option.bind_eq_some_iff.mp h
      refine r_callV (dc_X10_isAlike 24 rfl) mv_X10_wordOf ml_RX10_371 (As := [.int x5, .int xL3]) (t_X10_wordOf (d := d - 1) hl (by omega) e0) (by omega) rfl (Nat.le_of_ble_eq_true rfl) ?_
      refine r_icmp_eq (dc_X10_isAlike 25 rfl) (tgt := 44) (by decide) (fun c0 => ?_) (fun c0 => ?_)
      · rw [if_pos c0] at h
        refine r_iinc (dc_X10_isAlike 28 rfl) rfl (kinc_1 _) (by decide) (lo' := [(3, .int (xL3 + (1 : Int32))), (0, .ref pL0), (1, .int xL1), (2, .int xL2)]) rfl ?_
        refine r_goto (dc_X10_isAlike 29 rfl) (tgt := 14) (by decide) ?_
        refine r_pick [1, 2, 3, 0] (lo' := [(0, .ref pL0), (1, .int xL1), (2, .int xL2), (3, .int (xL3 + (1 : Int32)))]) rfl ?_
        exact ih _ h
      · rw [if_neg c0] at h
        refine r_iconst (dc_X10_isAlike 26 rfl) kiconst_0 ?_
        cases h
        exact r_zreturn (dc_X10_isAlike 27 rfl) rfl (Or.inl rfl)
theorem l_X10_isAlike_L2 {G : Gx} {d : Nat} (hl : G.1.stackTraces = false) (hd : 2 ≤ d) {sL : Sto} {pL0 : Nat} {xL1 : Int32} {r : Int32} {k56 : Option Int32}
    (hk56 : k56  = some r → J G d m_X10_isAlike 56 [] [] sL (.inl (some (.int r))) sL)
  : ∀ (f : Nat) (xL2 : Int32), F_X10_isAlike_L2 sL pL0 xL1 f xL2 k56 = some r → J G d m_X10_isAlike 2 [(0, .ref pL0), (1, .int xL1), (2, .int xL2)] [] sL (.inl (some (.int r))) sL := by
  intro f
  induction f with
  | zero => intro xL2 h; rw [F_X10_isAlike_L2] at h; cases h
  | succ f ih =>
    intro xL2 h
    rw [F_X10_isAlike_L2] at h
    refine r_iload_n (dc_X10_isAlike 2 rfl) rfl rfl ?_
    refine r_aload_n (dc_X10_isAlike 3 rfl) rfl rfl ?_
    obtain ⟨p1, e0, h⟩ := Option.bind_eq_some_iff.mp h
    refine r_getR (dc_X10_isAlike 4 rfl) fl_RX10_14 e0 ?_
    refine r_iconst (dc_X10_isAlike 5 rfl) kiconst_0 ?_
    obtain ⟨x2, e0, h⟩ := Option.bind_eq_some_iff.mp h
    refine r_iald (dc_X10_isAlike 6 rfl) e0 ?_
    refine r_icmp_ge (dc_X10_isAlike 7 rfl) (tgt := 56) (by decide) (fun c0 => ?_) (fun c0 => ?_)
    · rw [if_pos c0] at h
      refine r_pick [] (lo' := []) rfl ?_
      exact hk56  h
    · rw [if_neg c0] at h
      refine r_iconst (dc_X10_isAlike 8 rfl) kiconst_0 ?_
      refine r_istore_n (dc_X10_isAlike 9 rfl) rfl (by decide) (lo' := [(3, .int (0 : Int32)), (0, .ref pL0), (1, .int xL1), (2, .int xL2)]) rfl ?_
      refine r_pick [1, 2, 3, 0] (lo' := [(0, .ref pL0), (1, .int xL1), (2, .int xL2), (3, .int (0 : Int32))]) rfl ?_
      refine l_X10_isAlike_L14 hl hd (hk50 := ?_) fu _ h
      · intro h
        refine r_iinc (dc_X10_isAlike 30 rfl) rfl (kinc_1 _) (by decide) (lo' := [(2, .int (xL2 + (1 : Int32))), (0, .ref pL0), (1, .int xL1)]) rfl ?_
        refine r_goto (dc_X10_isAlike 31 rfl) (tgt := 2) (by decide) ?_
        refine r_pick [1, 2, 0] (lo' := [(0, .ref pL0), (1, .int xL1), (2, .int (xL2 + (1 : Int32)))]) rfl ?_
        exact ih _ h
theorem t_X10_isAlike {G : Gx} {d : Nat} (hl : G.1.stackTraces = false) (hd : 2 ≤ d) {σ : Sto} {a0 : Nat} {xa1 : Int32} {r : Int32} (h : F_X10_isAlike σ a0 xa1 = some r) : Mi G d m_X10_isAlike 10 a0 [.int xa1] σ (.inl (some (.int r))) σ := by
  rw [F_X10_isAlike] at h
  obtain ⟨hg, h⟩ := chk_some h
  refine ⟨J.toMt (lo := [(0, .ref a0), (1, .int xa1)]) pn_RX10 rfl hl (Nat.le_of_ble_eq_true rfl) rfl ?_, hg⟩
  refine r_iconst (dc_X10_isAlike 0 rfl) kiconst_1 ?_
  refine r_istore_n (dc_X10_isAlike 1 rfl) rfl (by decide) (lo' := [(2, .int (1 : Int32)), (0, .ref a0), (1, .int xa1)]) rfl ?_
  refine r_pick [1, 2, 0] (lo' := [(0, .ref a0), (1, .int xa1), (2, .int (1 : Int32))]) rfl ?_
  refine l_X10_isAlike_L2 hl hd (hk56 := ?_) fu _ h
  · intro h
    refine r_iconst (dc_X10_isAlike 32 rfl) kiconst_1 ?_
    cases h
    exact r_zreturn (dc_X10_isAlike 33 rfl) rfl (Or.inr rfl)
theorem l_X10_search_L2 {G : Gx} {d : Nat} (hl : G.1.stackTraces = false) (hd : 3 ≤ d) {pL0 : Nat} {r : (Int32 × Sto)} {k22 : Sto → Option (Int32 × Sto)}
    (hk22 : ∀ (sL : Sto), k22 sL = some r → J G d m_X10_search 22 [(0, .ref pL0)] [] sL (.inl (some (.int r.1))) r.2)
  : ∀ (f : Nat) (xL1 : Int32) (sL : Sto), F_X10_search_L2 pL0 f xL1 sL k22 = some r → J G d m_X10_search 2 [(0, .ref pL0), (1, .int xL1)] [] sL (.inl (some (.int r.1))) r.2 := by
  intro f
  induction f with
  | zero => intro xL1 sL h; rw [F_X10_search_L2] at h; cases h
  | succ f ih =>
    intro xL1 sL h
    rw [F_X10_search_L2] at h
    refine r_iload_n (dc_X10_search 2 rfl) rfl rfl ?_
    refine r_sipush (dc_X10_search 3 rfl) ksipush_4096 ?_
    refine r_icmp_ge (dc_X10_search 4 rfl) (tgt := 22) (by decide) (fun c0 => ?_) (fun c0 => ?_)
    · rw [if_pos c0] at h
      refine r_pick [0] (lo' := [(0, .ref pL0)]) rfl ?_
      exact hk22 _ h
    · rw [if_neg c0] at h
      refine r_aload_n (dc_X10_search 5 rfl) rfl rfl ?_
      obtain ⟨p1, e0, h⟩ := Option.bind_eq_some_iff.mp h
      refine r_getR (dc_X10_search 6 rfl) fl_RX10_40 e0 ?_
      refine r_iload_n (dc_X10_search 7 rfl) rfl rfl ?_
      refine r_iconst (dc_X10_search 8 rfl) kiconst_0 ?_
      obtain ⟨s2, e0, h⟩ := Option.bind_eq_some_iff.mp h
      refine r_zast (dc_X10_search 9 rfl) e0 ?_
      refine r_iinc (dc_X10_search 10 rfl) rfl (kinc_1 _) (by decide) (lo' := [(1, .int (xL1 + (1 : Int32))), (0, .ref pL0)]) rfl ?_
      refine r_goto (dc_X10_search 11 rfl) (tgt := 2) (by decide) ?_
      refine r_pick [1, 0] (lo' := [(0, .ref pL0), (1, .int (xL1 + (1 : Int32)))]) rfl ?_
      exact ih _ _ h
theorem l_X10_search_L72 {G : Gx} {d : Nat} (hl : G.1.stackTraces = false) (hd : 3 ≤ d) {pL0 : Nat} {xL2 : Int32} {xL3 : Int32} {r : (Int32 × Sto)} {k204 : Int32 → Sto → Option (Int32 × Sto)}
    (hk204 : ∀ (xL1 : Int32) (sL : Sto), k204 xL1 sL = some r → J G d m_X10_search 204 [(0, .ref pL0), (1, .int xL1), (2, .int xL2)] [] sL (.inl (some (.int r.1))) r.2)
  : ∀ (f : Nat) (xL1 : Int32) (xL4 : Int32) (sL : Sto), F_X10_search_L72 pL0 xL3 f xL1 xL4 sL k204 = some r → J G d m_X10_search 72 [(0, .ref pL0), (1, .int xL1), (2, .int xL2), (3, .int xL3), (4, .int xL4)] [] sL (.inl (some (.int r.1))) r.2 := by
  intro f
  induction f with
  | zero => intro xL1 xL4 sL h; rw [F_X10_search_L72] at h; cases h
  | succ f ih =>
    intro xL1 xL4 sL h
    rw [F_X10_search_L72] at h
    refine r_iload (dc_X10_search 47 rfl) rfl ?_
    refine r_iconst (dc_X10_search 48 rfl) kiconst_5 ?_
    refine r_aload_n (dc_X10_search 49 rfl) rfl rfl ?_
    obtain ⟨p13, e0, h⟩ := Option.bind_eq_some_iff.mp h
    refine r_getR (dc_X10_search 50 rfl) fl_RX10_14 e0 ?_
    refine r_iconst (dc_X10_search 51 rfl) kiconst_0 ?_
    obtain ⟨x14, e0, h⟩ := Option.bind_eq_some_iff.mp h
    refine r_iald (dc_X10_search 52 rfl) e0 ?_
    refine r_imul (dc_X10_search 53 rfl) ?_
    refine r_icmp_ge (dc_X10_search 54 rfl) (tgt := 204) (by decide) (fun c0 => ?_) (fun c0 => ?_)
    · rw [if_pos c0] at h
      refine r_pick [0, 1, 2] (lo' := [(0, .ref pL0), (1, .int xL1), (2, .int xL2)]) rfl ?_
      exact hk204 _ _ h
    · rw [if_neg c0] at h
      refine r_iload (dc_X10_search 55 rfl) rfl ?_
      refine r_iconst (dc_X10_search 56 rfl) kiconst_5 ?_
      refine r_idiv (dc_X10_search 57 rfl) (by decide) ?_
      refine r_istore (dc_X10_search 58 rfl) (by decide) (lo' := [(5, .int (xL4 / (5 : Int32))), (0, .ref pL0), (1, .int xL1), (2, .int xL2), (3, .int xL3), (4, .int xL4)]) rfl ?_
      refine r_iload (dc_X10_search 59 rfl) rfl ?_
      refine r_iconst (dc_X10_search 60 rfl) kiconst_5 ?_
      refine r_irem (dc_X10_search 61 rfl) (by decide) ?_
      refine r_istore (dc_X10_search 62 rfl) (by decide) (lo' := [(6, .int (xL4 - xL4 / (5 : Int32) * (5 : Int32))), (5, .int (xL4 / (5 : Int32))), (0, .ref pL0), (1, .int xL1), (2, .int xL2), (3, .int xL3), (4, .int xL4)]) rfl ?_
      refine r_aload_n (dc_X10_search 63 rfl) rfl rfl ?_
      refine r_iload (dc_X10_search 64 rfl) rfl ?_
      refine r_iload (dc_X10_search 65 rfl) rfl ?_
      obtain ⟨x15, e0, h⟩ := Option.bind_eq_some_iff.mp h
      refine r_callV (dc_X10_search 66 rfl) mv_X10_areTwo ml_RX10_211 (As := [.int (xL4 / (5 : Int32)), .int (xL4 - xL4 / (5 : Int32) * (5 : Int32))]) (t_X10_areTwo (d := d - 1) hl (by omega) e0) (by omega) rfl (Nat.le_of_ble_eq_true rfl) ?_
      refine r_if_eq (dc_X10_search 67 rfl) (tgt := 198) (by decide) (fun c0 => ?_) (fun c0 => ?_)
      · rw [if_pos c0] at h
        refine r_iinc (dc_X10_search 116 rfl) rfl (kinc_1 _) (by decide) (lo' := [(4, .int (xL4 + (1 : Int32))), (6, .int (xL4 - xL4 / (5 : Int32) * (5 : Int32))), (5, .int (xL4 / (5 : Int32))), (0, .ref pL0), (1, .int xL1), (2, .int xL2), (3, .int xL3)]) rfl ?_
        refine r_goto (dc_X10_search 117 rfl) (tgt := 72) (by decide) ?_
        refine r_pick [3, 4, 5, 6, 0] (lo' := [(0, .ref pL0), (1, .int xL1), (2, .int xL2), (3, .int xL3), (4, .int (xL4 + (1 : Int32)))]) rfl ?_
        exact ih _ _ _ h
      · rw [if_neg c0] at h
        refine r_aload_n (dc_X10_search 68 rfl) rfl rfl ?_
        refine r_iload (dc_X10_search 69 rfl) rfl ?_
        refine r_iload (dc_X10_search 70 rfl) rfl ?_
        obtain ⟨x16, e0, h⟩ := Option.bind_eq_some_iff.mp h
        refine r_callV (dc_X10_search 71 rfl) mv_X10_isCut ml_RX10_197 (As := [.int (xL4 / (5 : Int32)), .int (xL4 - xL4 / (5 : Int32) * (5 : Int32))]) (t_X10_isCut (d := d - 1) hl (by omega) e0) (by omega) rfl (Nat.le_of_ble_eq_true rfl) ?_
        refine r_if_eq (dc_X10_search 72 rfl) (tgt := 122) (by decide) (fun c0 => ?_) (fun c0 => ?_)
        · rw [if_pos c0] at h
          refine r_iload_n (dc_X10_search 74 rfl) rfl rfl ?_
          refine r_iload (dc_X10_search 75 rfl) rfl ?_
          refine r_iload_n (dc_X10_search 76 rfl) rfl rfl ?_
          refine r_iload (dc_X10_search 77 rfl) rfl ?_
          obtain ⟨x17, e0, h⟩ := Option.bind_eq_some_iff.mp h
          refine r_callS (dc_X10_search 78 rfl) ms_X10_maskIn ml_RX10_368 (As := [.int xL3, .int (xL4 / (5 : Int32))]) (t_X10_maskIn (d := d - 1) hl (by omega) e0) (by omega) rfl (Nat.le_of_ble_eq_true rfl) ?_
          refine r_iload_n (dc_X10_search 79 rfl) rfl rfl ?_
          refine r_iload (dc_X10_search 80 rfl) rfl ?_
          obtain ⟨x18, e0, h⟩ := Option.bind_eq_some_iff.mp h
          refine r_callS (dc_X10_search 81 rfl) ms_X10_maskIn ml_RX10_368 (As := [.int xL3, .int (xL4 - xL4 / (5 : Int32) * (5 : Int32))]) (t_X10_maskIn (d := d - 1) hl (by omega) e0) (by omega) rfl (Nat.le_of_ble_eq_true rfl) ?_
          refine r_ior (dc_X10_search 82 rfl) ?_
          obtain ⟨x19, e0, h⟩ := Option.bind_eq_some_iff.mp h
          refine r_callS (dc_X10_search 83 rfl) ms_X10_withMask ml_RX10_377 (As := [.int xL3, .int (xL4 - xL4 / (5 : Int32) * (5 : Int32)), .int (x17 ||| x18)]) (t_X10_withMask (d := d - 1) hl (by omega) e0) (by omega) rfl (Nat.le_of_ble_eq_true rfl) ?_
          refine r_istore (dc_X10_search 84 rfl) (by decide) (lo' := [(7, .int x19), (6, .int (xL4 - xL4 / (5 : Int32) * (5 : Int32))), (5, .int (xL4 / (5 : Int32))), (0, .ref pL0), (1, .int xL1), (2, .int xL2), (3, .int xL3), (4, .int xL4)]) rfl ?_
          refine r_aload_n (dc_X10_search 85 rfl) rfl rfl ?_
          obtain ⟨p20, e0, h⟩ := Option.bind_eq_some_iff.mp h
          refine r_getR (dc_X10_search 86 rfl) fl_RX10_40 e0 ?_
          refine r_iload (dc_X10_search 87 rfl) rfl ?_
          obtain ⟨x21, e0, h⟩ := Option.bind_eq_some_iff.mp h
          refine r_zald (dc_X10_search 88 rfl) e0 ?_
          refine r_if_eq (dc_X10_search 89 rfl) (tgt := 156) (by decide) (fun c0 => ?_) (fun c0 => ?_)
          · rw [if_pos c0] at h
            refine r_aload_n (dc_X10_search 91 rfl) rfl rfl ?_
            obtain ⟨p22, e0, h⟩ := Option.bind_eq_some_iff.mp h
            refine r_getR (dc_X10_search 92 rfl) fl_RX10_40 e0 ?_
            refine r_iload (dc_X10_search 93 rfl) rfl ?_
            refine r_iconst (dc_X10_search 94 rfl) kiconst_1 ?_
            obtain ⟨s23, e0, h⟩ := Option.bind_eq_some_iff.mp h
            refine r_zast (dc_X10_search 95 rfl) e0 ?_
            refine r_aload_n (dc_X10_search 96 rfl) rfl rfl ?_
            obtain ⟨p24, e0, h⟩ := Option.bind_eq_some_iff.mp h
            refine r_getR (dc_X10_search 97 rfl) fl_RX10_43 e0 ?_
            refine r_iload (dc_X10_search 98 rfl) rfl ?_
            refine r_iload_n (dc_X10_search 99 rfl) rfl rfl ?_
            obtain ⟨s25, e0, h⟩ := Option.bind_eq_some_iff.mp h
            refine r_iast (dc_X10_search 100 rfl) e0 ?_
            refine r_aload_n (dc_X10_search 101 rfl) rfl rfl ?_
            obtain ⟨p26, e0, h⟩ := Option.bind_eq_some_iff.mp h
            refine r_getR (dc_X10_search 102 rfl) fl_RX10_46 e0 ?_
            refine r_iload (dc_X10_search 103 rfl) rfl ?_
            refine r_bipush (dc_X10_search 104 rfl) kbipush_10 ?_
            refine r_iload (dc_X10_search 105 rfl) rfl ?_
            refine r_imul (dc_X10_search 106 rfl) ?_
            refine r_iload (dc_X10_search 107 rfl) rfl ?_
            refine r_iadd (dc_X10_search 108 rfl) ?_
            obtain ⟨s27, e0, h⟩ := Option.bind_eq_some_iff.mp h
            refine r_iast (dc_X10_search 109 rfl) e0 ?_
            refine r_aload_n (dc_X10_search 110 rfl) rfl rfl ?_
            obtain ⟨p28, e0, h⟩ := Option.bind_eq_some_iff.mp h
            refine r_getR (dc_X10_search 111 rfl) fl_RX10_49 e0 ?_
            refine r_iload_n (dc_X10_search 112 rfl) rfl rfl ?_
            refine r_iload (dc_X10_search 113 rfl) rfl ?_
            obtain ⟨s29, e0, h⟩ := Option.bind_eq_some_iff.mp h
            refine r_iast (dc_X10_search 114 rfl) e0 ?_
            refine r_iinc (dc_X10_search 115 rfl) rfl (kinc_1 _) (by decide) (lo' := [(1, .int (xL1 + (1 : Int32))), (7, .int x19), (6, .int (xL4 - xL4 / (5 : Int32) * (5 : Int32))), (5, .int (xL4 / (5 : Int32))), (0, .ref pL0), (2, .int xL2), (3, .int xL3), (4, .int xL4)]) rfl ?_
            refine r_iinc (dc_X10_search 116 rfl) rfl (kinc_1 _) (by decide) (lo' := [(4, .int (xL4 + (1 : Int32))), (1, .int (xL1 + (1 : Int32))), (7, .int x19), (6, .int (xL4 - xL4 / (5 : Int32) * (5 : Int32))), (5, .int (xL4 / (5 : Int32))), (0, .ref pL0), (2, .int xL2), (3, .int xL3)]) rfl ?_
            refine r_goto (dc_X10_search 117 rfl) (tgt := 72) (by decide) ?_
            refine r_pick [5, 1, 6, 7, 0] (lo' := [(0, .ref pL0), (1, .int (xL1 + (1 : Int32))), (2, .int xL2), (3, .int xL3), (4, .int (xL4 + (1 : Int32)))]) rfl ?_
            exact ih _ _ _ h
          · rw [if_neg c0] at h
            refine r_goto (dc_X10_search 90 rfl) (tgt := 198) (by decide) ?_
            refine r_iinc (dc_X10_search 116 rfl) rfl (kinc_1 _) (by decide) (lo' := [(4, .int (xL4 + (1 : Int32))), (7, .int x19), (6, .int (xL4 - xL4 / (5 : Int32) * (5 : Int32))), (5, .int (xL4 / (5 : Int32))), (0, .ref pL0), (1, .int xL1), (2, .int xL2), (3, .int xL3)]) rfl ?_
            refine r_goto (dc_X10_search 117 rfl) (tgt := 72) (by decide) ?_
            refine r_pick [4, 5, 6, 7, 0] (lo' := [(0, .ref pL0), (1, .int xL1), (2, .int xL2), (3, .int xL3), (4, .int (xL4 + (1 : Int32)))]) rfl ?_
            exact ih _ _ _ h
        · rw [if_neg c0] at h
          refine r_goto (dc_X10_search 73 rfl) (tgt := 198) (by decide) ?_
          refine r_iinc (dc_X10_search 116 rfl) rfl (kinc_1 _) (by decide) (lo' := [(4, .int (xL4 + (1 : Int32))), (6, .int (xL4 - xL4 / (5 : Int32) * (5 : Int32))), (5, .int (xL4 / (5 : Int32))), (0, .ref pL0), (1, .int xL1), (2, .int xL2), (3, .int xL3)]) rfl ?_
          refine r_goto (dc_X10_search 117 rfl) (tgt := 72) (by decide) ?_
          refine r_pick [3, 4, 5, 6, 0] (lo' := [(0, .ref pL0), (1, .int xL1), (2, .int xL2), (3, .int xL3), (4, .int (xL4 + (1 : Int32)))]) rfl ?_
          exact ih _ _ _ h
theorem l_X10_search_L47 {G : Gx} {d : Nat} (hl : G.1.stackTraces = false) (hd : 3 ≤ d) {pL0 : Nat} {r : (Int32 × Sto)} {k210 : Sto → Option (Int32 × Sto)}
    (hk210 : ∀ (sL : Sto), k210 sL = some r → J G d m_X10_search 210 [] [] sL (.inl (some (.int r.1))) r.2)
  : ∀ (f : Nat) (xL1 : Int32) (xL2 : Int32) (sL : Sto), F_X10_search_L47 pL0 f xL1 xL2 sL k210 = some r → J G d m_X10_search 47 [(0, .ref pL0), (1, .int xL1), (2, .int xL2)] [] sL (.inl (some (.int r.1))) r.2 := by
  intro f
  induction f with
  | zero => intro xL1 xL2 sL h; rw [F_X10_search_L47] at h; cases h
  | succ f ih =>
    intro xL1 xL2 sL h
    rw [F_X10_search_L47] at h
    refine r_iload_n (dc_X10_search 31 rfl) rfl rfl ?_
    refine r_iload_n (dc_X10_search 32 rfl) rfl rfl ?_
    refine r_icmp_ge (dc_X10_search 33 rfl) (tgt := 210) (by decide) (fun c0 => ?_) (fun c0 => ?_)
    · rw [if_pos c0] at h
      refine r_pick [] (lo' := []) rfl ?_
      exact hk210 _ h
    · rw [if_neg c0] at h
      refine r_aload_n (dc_X10_search 34 rfl) rfl rfl ?_
      obtain ⟨p10, e0, h⟩ := Option.bind_eq_some_iff.mp h
      refine r_getR (dc_X10_search 35 rfl) fl_RX10_49 e0 ?_
      refine r_iload_n (dc_X10_search 36 rfl) rfl rfl ?_
      obtain ⟨x11, e0, h⟩ := Option.bind_eq_some_iff.mp h
      refine r_iald (dc_X10_search 37 rfl) e0 ?_
      refine r_istore_n (dc_X10_search 38 rfl) rfl (by decide) (lo' := [(3, .int x11), (0, .ref pL0), (1, .int xL1), (2, .int xL2)]) rfl ?_
      refine r_aload_n (dc_X10_search 39 rfl) rfl rfl ?_
      refine r_iload_n (dc_X10_search 40 rfl) rfl rfl ?_
      obtain ⟨x12, e0, h⟩ := Option.bind_eq_some_iff.mp h
      refine r_callV (dc_X10_search 41 rfl) mv_X10_isAlike ml_RX10_374 (As := [.int x11]) (t_X10_isAlike (d := d - 1) hl (by omega) e0) (by omega) rfl (Nat.le_of_ble_eq_true rfl) ?_
      refine r_if_eq (dc_X10_search 42 rfl) (tgt := 69) (by decide) (fun c0 => ?_) (fun c0 => ?_)
      · rw [if_pos c0] at h
        refine r_iconst (dc_X10_search 45 rfl) kiconst_0 ?_
        refine r_istore (dc_X10_search 46 rfl) (by decide) (lo' := [(4, .int (0 : Int32)), (3, .int x11), (0, .ref pL0), (1, .int xL1), (2, .int xL2)]) rfl ?_
        refine r_pick [2, 3, 4, 1, 0] (lo' := [(0, .ref pL0), (1, .int xL1), (2, .int xL2), (3, .int x11), (4, .int (0 : Int32))]) rfl ?_
        refine l_X10_search_L72 hl hd (hk204 := ?_) fu _ _ _ h
        · intro x30 s31 h
          refine r_iinc (dc_X10_search 118 rfl) rfl (kinc_1 _) (by decide) (lo' := [(2, .int (xL2 + (1 : Int32))), (0, .ref pL0), (1, .int x30)]) rfl ?_
          refine r_goto (dc_X10_search 119 rfl) (tgt := 47) (by decide) ?_
          refine r_pick [1, 2, 0] (lo' := [(0, .ref pL0), (1, .int x30), (2, .int (xL2 + (1 : Int32)))]) rfl ?_
          exact ih _ _ _ h
      · rw [if_neg c0] at h
        refine r_iload_n (dc_X10_search 43 rfl) rfl rfl ?_
        cases h
        exact r_ireturn (dc_X10_search 44 rfl) rfl
theorem t_X10_search {G : Gx} {d : Nat} (hl : G.1.stackTraces = false) (hd : 3 ≤ d) {σ : Sto} {a0 : Nat} {r : (Int32 × Sto)} (h : F_X10_search σ a0 = some r) : Mi G d m_X10_search 10 a0 [] σ (.inl (some (.int r.1))) r.2 := by
  rw [F_X10_search] at h
  obtain ⟨hg, h⟩ := chk_some h
  refine ⟨J.toMt (lo := [(0, .ref a0)]) pn_RX10 rfl hl (Nat.le_of_ble_eq_true rfl) rfl ?_, hg⟩
  refine r_iconst (dc_X10_search 0 rfl) kiconst_0 ?_
  refine r_istore_n (dc_X10_search 1 rfl) rfl (by decide) (lo' := [(1, .int (0 : Int32)), (0, .ref a0)]) rfl ?_
  refine r_pick [1, 0] (lo' := [(0, .ref a0), (1, .int (0 : Int32))]) rfl ?_
  refine l_X10_search_L2 hl hd (hk22 := ?_) fu _ _ h
  · intro s3 h
    refine r_aload_n (dc_X10_search 12 rfl) rfl rfl ?_
    obtain ⟨p4, e0, h⟩ := Option.bind_eq_some_iff.mp h
    refine r_getR (dc_X10_search 13 rfl) fl_RX10_40 e0 ?_
    refine r_iconst (dc_X10_search 14 rfl) kiconst_0 ?_
    refine r_iconst (dc_X10_search 15 rfl) kiconst_1 ?_
    obtain ⟨s5, e0, h⟩ := Option.bind_eq_some_iff.mp h
    refine r_zast (dc_X10_search 16 rfl) e0 ?_
    refine r_aload_n (dc_X10_search 17 rfl) rfl rfl ?_
    obtain ⟨p6, e0, h⟩ := Option.bind_eq_some_iff.mp h
    refine r_getR (dc_X10_search 18 rfl) fl_RX10_43 e0 ?_
    refine r_iconst (dc_X10_search 19 rfl) kiconst_0 ?_
    refine r_iconst (dc_X10_search 20 rfl) kiconst_m1 ?_
    obtain ⟨s7, e0, h⟩ := Option.bind_eq_some_iff.mp h
    refine r_iast (dc_X10_search 21 rfl) e0 ?_
    refine r_aload_n (dc_X10_search 22 rfl) rfl rfl ?_
    obtain ⟨p8, e0, h⟩ := Option.bind_eq_some_iff.mp h
    refine r_getR (dc_X10_search 23 rfl) fl_RX10_49 e0 ?_
    refine r_iconst (dc_X10_search 24 rfl) kiconst_0 ?_
    refine r_iconst (dc_X10_search 25 rfl) kiconst_0 ?_
    obtain ⟨s9, e0, h⟩ := Option.bind_eq_some_iff.mp h
    refine r_iast (dc_X10_search 26 rfl) e0 ?_
    refine r_iconst (dc_X10_search 27 rfl) kiconst_1 ?_
    refine r_istore_n (dc_X10_search 28 rfl) rfl (by decide) (lo' := [(1, .int (1 : Int32)), (0, .ref a0)]) rfl ?_
    refine r_iconst (dc_X10_search 29 rfl) kiconst_0 ?_
    refine r_istore_n (dc_X10_search 30 rfl) rfl (by decide) (lo' := [(2, .int (0 : Int32)), (1, .int (1 : Int32)), (0, .ref a0)]) rfl ?_
    refine r_pick [2, 1, 0] (lo' := [(0, .ref a0), (1, .int (1 : Int32)), (2, .int (0 : Int32))]) rfl ?_
    refine l_X10_search_L47 hl hd (hk210 := ?_) fu _ _ _ h
    · intro s32 h
      refine r_iconst (dc_X10_search 120 rfl) kiconst_m1 ?_
      cases h
      exact r_ireturn (dc_X10_search 121 rfl) rfl
theorem l_X10_fewest_L44 {G : Gx} {d : Nat} (hl : G.1.stackTraces = false) (hd : 4 ≤ d) {pL0 : Nat} {xL1 : Int32} {r : (Int32 × Sto)} {k83 : Int32 → Sto → Option (Int32 × Sto)}
    (hk83 : ∀ (xL3 : Int32) (sL : Sto), k83 xL3 sL = some r → J G d m_X10_fewest 83 [(0, .ref pL0), (1, .int xL1), (3, .int xL3)] [] sL (.inl (some (.int r.1))) r.2)
  : ∀ (f : Nat) (xL3 : Int32) (xL4 : Int32) (sL : Sto), F_X10_fewest_L44 pL0 f xL3 xL4 sL k83 = some r → J G d m_X10_fewest 44 [(0, .ref pL0), (1, .int xL1), (3, .int xL3), (4, .int xL4)] [] sL (.inl (some (.int r.1))) r.2 := by
  intro f
  induction f with
  | zero => intro xL3 xL4 sL h; rw [F_X10_fewest_L44] at h; cases h
  | succ f ih =>
    intro xL3 xL4 sL h
    rw [F_X10_fewest_L44] at h
    refine r_aload_n (dc_X10_fewest 29 rfl) rfl rfl ?_
    obtain ⟨p7, e0, h⟩ := Option.bind_eq_some_iff.mp h
    refine r_getR (dc_X10_fewest 30 rfl) fl_RX10_43 e0 ?_
    refine r_iload (dc_X10_fewest 31 rfl) rfl ?_
    obtain ⟨x8, e0, h⟩ := Option.bind_eq_some_iff.mp h
    refine r_iald (dc_X10_fewest 32 rfl) e0 ?_
    refine r_iconst (dc_X10_fewest 33 rfl) kiconst_m1 ?_
    refine r_icmp_eq (dc_X10_fewest 34 rfl) (tgt := 83) (by decide) (fun c0 => ?_) (fun c0 => ?_)
    · rw [if_pos c0] at h
      refine r_pick [0, 1, 2] (lo' := [(0, .ref pL0), (1, .int xL1), (3, .int xL3)]) rfl ?_
      exact hk83 _ _ h
    · rw [if_neg c0] at h
      refine r_aload_n (dc_X10_fewest 35 rfl) rfl rfl ?_
      obtain ⟨p9, e0, h⟩ := Option.bind_eq_some_iff.mp h
      refine r_getR (dc_X10_fewest 36 rfl) fl_RX10_52 e0 ?_
      refine r_iload_n (dc_X10_fewest 37 rfl) rfl rfl ?_
      refine r_aload_n (dc_X10_fewest 38 rfl) rfl rfl ?_
      obtain ⟨p10, e0, h⟩ := Option.bind_eq_some_iff.mp h
      refine r_getR (dc_X10_fewest 39 rfl) fl_RX10_46 e0 ?_
      refine r_iload (dc_X10_fewest 40 rfl) rfl ?_
      obtain ⟨x11, e0, h⟩ := Option.bind_eq_some_iff.mp h
      refine r_iald (dc_X10_fewest 41 rfl) e0 ?_
      obtain ⟨s12, e0, h⟩ := Option.bind_eq_some_iff.mp h
      refine r_iast (dc_X10_fewest 42 rfl) e0 ?_
      refine r_iinc (dc_X10_fewest 43 rfl) rfl (kinc_1 _) (by decide) (lo' := [(3, .int (xL3 + (1 : Int32))), (0, .ref pL0), (1, .int xL1), (4, .int xL4)]) rfl ?_
      refine r_aload_n (dc_X10_fewest 44 rfl) rfl rfl ?_
      obtain ⟨p13, e0, h⟩ := Option.bind_eq_some_iff.mp h
      refine r_getR (dc_X10_fewest 45 rfl) fl_RX10_43 e0 ?_
      refine r_iload (dc_X10_fewest 46 rfl) rfl ?_
      obtain ⟨x14, e0, h⟩ := Option.bind_eq_some_iff.mp h
      refine r_iald (dc_X10_fewest 47 rfl) e0 ?_
      refine r_istore (dc_X10_fewest 48 rfl) (by decide) (lo' := [(4, .int x14), (3, .int (xL3 + (1 : Int32))), (0, .ref pL0), (1, .int xL1)]) rfl ?_
      refine r_goto (dc_X10_fewest 49 rfl) (tgt := 44) (by decide) ?_
      refine r_pick [2, 3, 1, 0] (lo' := [(0, .ref pL0), (1, .int xL1), (3, .int (xL3 + (1 : Int32))), (4, .int x14)]) rfl ?_
      exact ih _ _ _ h
theorem t_X10_fewest {G : Gx} {d : Nat} (hl : G.1.stackTraces = false) (hd : 4 ≤ d) {σ : Sto} {a0 : Nat} {xa1 : Int32} {r : (Int32 × Sto)} (h : F_X10_fewest σ a0 xa1 = some r) : Mi G d m_X10_fewest 10 a0 [.int xa1] σ (.inl (some (.int r.1))) r.2 := by
  rw [F_X10_fewest] at h
  obtain ⟨hg, h⟩ := chk_some h
  refine ⟨J.toMt (lo := [(0, .ref a0), (1, .int xa1)]) pn_RX10 rfl hl (Nat.le_of_ble_eq_true rfl) rfl ?_, hg⟩
  refine r_aload_n (dc_X10_fewest 0 rfl) rfl rfl ?_
  refine r_iconst (dc_X10_fewest 1 rfl) kiconst_0 ?_
  obtain ⟨s1, e0, h⟩ := Option.bind_eq_some_iff.mp h
  refine r_put (dc_X10_fewest 2 rfl) pl_RX10_1 rfl e0 ?_
  refine r_aload_n (dc_X10_fewest 3 rfl) rfl rfl ?_
  refine r_iconst (dc_X10_fewest 4 rfl) kiconst_0 ?_
  obtain ⟨s2, e0, h⟩ := Option.bind_eq_some_iff.mp h
  refine r_put (dc_X10_fewest 5 rfl) pl_RX10_59 rfl e0 ?_
  refine r_aload_n (dc_X10_fewest 6 rfl) rfl rfl ?_
  obtain ⟨p3, e0, h⟩ := Option.bind_eq_some_iff.mp h
  refine r_getR (dc_X10_fewest 7 rfl) fl_RX10_14 e0 ?_
  refine r_iconst (dc_X10_fewest 8 rfl) kiconst_0 ?_
  obtain ⟨x4, e0, h⟩ := Option.bind_eq_some_iff.mp h
  refine r_iald (dc_X10_fewest 9 rfl) e0 ?_
  refine r_iconst (dc_X10_fewest 10 rfl) kiconst_5 ?_
  refine r_icmp_eq (dc_X10_fewest 11 rfl) (tgt := 25) (by decide) (fun c0 => ?_) (fun c0 => ?_)
  · rw [if_pos c0] at h
    refine r_iconst (dc_X10_fewest 15 rfl) kiconst_m1 ?_
    cases h
    exact r_ireturn (dc_X10_fewest 16 rfl) rfl
  · rw [if_neg c0] at h
    refine r_iload_n (dc_X10_fewest 12 rfl) rfl rfl ?_
    refine r_iconst (dc_X10_fewest 13 rfl) kiconst_m1 ?_
    refine r_icmp_ge (dc_X10_fewest 14 rfl) (tgt := 27) (by decide) (fun c0 => ?_) (fun c0 => ?_)
    · rw [if_pos c0] at h
      refine r_aload_n (dc_X10_fewest 17 rfl) rfl rfl ?_
      obtain ⟨x6, s5, e0, h⟩ := wb_some h
      refine r_callV (dc_X10_fewest 18 rfl) mv_X10_search ml_RX10_380 (As := []) (t_X10_search (d := d - 1) hl (by omega) e0) (by omega) rfl (Nat.le_of_ble_eq_true rfl) ?_
      refine r_istore_n (dc_X10_fewest 19 rfl) rfl (by decide) (lo' := [(2, .int x6), (0, .ref a0), (1, .int xa1)]) rfl ?_
      refine r_iload_n (dc_X10_fewest 20 rfl) rfl rfl ?_
      refine r_iconst (dc_X10_fewest 21 rfl) kiconst_m1 ?_
      refine r_icmp_ne (dc_X10_fewest 22 rfl) (tgt := 39) (by decide) (fun c0 => ?_) (fun c0 => ?_)
      · rw [if_neg c0] at h
        refine r_iconst (dc_X10_fewest 25 rfl) kiconst_0 ?_
        refine r_istore_n (dc_X10_fewest 26 rfl) rfl (by decide) (lo' := [(3, .int (0 : Int32)), (2, .int x6), (0, .ref a0), (1, .int xa1)]) rfl ?_
        refine r_iload_n (dc_X10_fewest 27 rfl) rfl rfl ?_
        refine r_istore (dc_X10_fewest 28 rfl) (by decide) (lo' := [(4, .int x6), (3, .int (0 : Int32)), (2, .int x6), (0, .ref a0), (1, .int xa1)]) rfl ?_
        refine r_pick [3, 4, 1, 0] (lo' := [(0, .ref a0), (1, .int xa1), (3, .int (0 : Int32)), (4, .int x6)]) rfl ?_
        refine l_X10_fewest_L44 hl hd (hk83 := ?_) fu _ _ _ h
        · intro x15 s16 h
          refine r_iload_n (dc_X10_fewest 50 rfl) rfl rfl ?_
          refine r_iconst (dc_X10_fewest 51 rfl) kiconst_m1 ?_
          refine r_icmp_ne (dc_X10_fewest 52 rfl) (tgt := 92) (by decide) (fun c0 => ?_) (fun c0 => ?_)
          · rw [if_neg c0] at h
            refine r_iload_n (dc_X10_fewest 55 rfl) rfl rfl ?_
            refine r_iload_n (dc_X10_fewest 56 rfl) rfl rfl ?_
            refine r_icmp_ge (dc_X10_fewest 57 rfl) (tgt := 110) (by decide) (fun c0 => ?_) (fun c0 => ?_)
            · rw [if_pos c0] at h
              refine r_iconst (dc_X10_fewest 67 rfl) kiconst_m1 ?_
              cases h
              exact r_ireturn (dc_X10_fewest 68 rfl) rfl
            · rw [if_neg c0] at h
              refine r_aload_n (dc_X10_fewest 58 rfl) rfl rfl ?_
              obtain ⟨p17, e0, h⟩ := Option.bind_eq_some_iff.mp h
              refine r_getR (dc_X10_fewest 59 rfl) fl_RX10_52 e0 ?_
              refine r_iload_n (dc_X10_fewest 60 rfl) rfl rfl ?_
              refine r_iconst (dc_X10_fewest 61 rfl) kiconst_1 ?_
              refine r_isub (dc_X10_fewest 62 rfl) ?_
              refine r_iload_n (dc_X10_fewest 63 rfl) rfl rfl ?_
              refine r_isub (dc_X10_fewest 64 rfl) ?_
              obtain ⟨x18, e0, h⟩ := Option.bind_eq_some_iff.mp h
              refine r_iald (dc_X10_fewest 65 rfl) e0 ?_
              refine r_goto (dc_X10_fewest 66 rfl) (tgt := 111) (by decide) ?_
              cases h
              exact r_ireturn (dc_X10_fewest 68 rfl) rfl
          · rw [if_pos c0] at h
            refine r_iload_n (dc_X10_fewest 53 rfl) rfl rfl ?_
            refine r_goto (dc_X10_fewest 54 rfl) (tgt := 111) (by decide) ?_
            cases h
            exact r_ireturn (dc_X10_fewest 68 rfl) rfl
      · rw [if_pos c0] at h
        refine r_iconst (dc_X10_fewest 23 rfl) kiconst_m1 ?_
        cases h
        exact r_ireturn (dc_X10_fewest 24 rfl) rfl
    · rw [if_neg c0] at h
      refine r_iconst (dc_X10_fewest 15 rfl) kiconst_m1 ?_
      cases h
      exact r_ireturn (dc_X10_fewest 16 rfl) rfl
theorem l_X10_waitingAll_L4 {G : Gx} {d : Nat} (hl : G.1.stackTraces = false) (hd : 0 ≤ d) {sL : Sto} {pL0 : Nat} {r : Int32} {k29 : Int32 → Option Int32}
    (hk29 : ∀ (xL1 : Int32), k29 xL1 = some r → J G d m_X10_waitingAll 29 [(1, .int xL1)] [] sL (.inl (some (.int r))) sL)
  : ∀ (f : Nat) (xL1 : Int32) (xL2 : Int32), F_X10_waitingAll_L4 sL pL0 f xL1 xL2 k29 = some r → J G d m_X10_waitingAll 4 [(0, .ref pL0), (1, .int xL1), (2, .int xL2)] [] sL (.inl (some (.int r))) sL := by
  intro f
  induction f with
  | zero => intro xL1 xL2 h; rw [F_X10_waitingAll_L4] at h; cases h
  | succ f ih =>
    intro xL1 xL2 h
    rw [F_X10_waitingAll_L4] at h
    refine r_iload_n (dc_X10_waitingAll 4 rfl) rfl rfl ?_
    refine r_bipush (dc_X10_waitingAll 5 rfl) kbipush_25 ?_
    refine r_icmp_ge (dc_X10_waitingAll 6 rfl) (tgt := 29) (by decide) (fun c0 => ?_) (fun c0 => ?_)
    · rw [if_pos c0] at h
      refine r_pick [1] (lo' := [(1, .int xL1)]) rfl ?_
      exact hk29 _ h
    · rw [if_neg c0] at h
      refine r_iload_n (dc_X10_waitingAll 7 rfl) rfl rfl ?_
      refine r_aload_n (dc_X10_waitingAll 8 rfl) rfl rfl ?_
      obtain ⟨p1, e0, h⟩ := Option.bind_eq_some_iff.mp h
      refine r_getR (dc_X10_waitingAll 9 rfl) fl_RX10_14 e0 ?_
      refine r_sipush (dc_X10_waitingAll 10 rfl) ksipush_5153 ?_
      refine r_iload_n (dc_X10_waitingAll 11 rfl) rfl rfl ?_
      refine r_iadd (dc_X10_waitingAll 12 rfl) ?_
      obtain ⟨x2, e0, h⟩ := Option.bind_eq_some_iff.mp h
      refine r_iald (dc_X10_waitingAll 13 rfl) e0 ?_
      refine r_iadd (dc_X10_waitingAll 14 rfl) ?_
      refine r_istore_n (dc_X10_waitingAll 15 rfl) rfl (by decide) (lo' := [(1, .int (xL1 + x2)), (0, .ref pL0), (2, .int xL2)]) rfl ?_
      refine r_iinc (dc_X10_waitingAll 16 rfl) rfl (kinc_1 _) (by decide) (lo' := [(2, .int (xL2 + (1 : Int32))), (1, .int (xL1 + x2)), (0, .ref pL0)]) rfl ?_
      refine r_goto (dc_X10_waitingAll 17 rfl) (tgt := 4) (by decide) ?_
      refine r_pick [2, 1, 0] (lo' := [(0, .ref pL0), (1, .int (xL1 + x2)), (2, .int (xL2 + (1 : Int32)))]) rfl ?_
      exact ih _ _ h
theorem t_X10_waitingAll {G : Gx} {d : Nat} (hl : G.1.stackTraces = false) (hd : 0 ≤ d) {σ : Sto} {a0 : Nat} {r : Int32} (h : F_X10_waitingAll σ a0 = some r) : Mi G d m_X10_waitingAll 10 a0 [] σ (.inl (some (.int r))) σ := by
  rw [F_X10_waitingAll] at h
  obtain ⟨hg, h⟩ := chk_some h
  refine ⟨J.toMt (lo := [(0, .ref a0)]) pn_RX10 rfl hl (Nat.le_of_ble_eq_true rfl) rfl ?_, hg⟩
  refine r_iconst (dc_X10_waitingAll 0 rfl) kiconst_0 ?_
  refine r_istore_n (dc_X10_waitingAll 1 rfl) rfl (by decide) (lo' := [(1, .int (0 : Int32)), (0, .ref a0)]) rfl ?_
  refine r_iconst (dc_X10_waitingAll 2 rfl) kiconst_0 ?_
  refine r_istore_n (dc_X10_waitingAll 3 rfl) rfl (by decide) (lo' := [(2, .int (0 : Int32)), (1, .int (0 : Int32)), (0, .ref a0)]) rfl ?_
  refine r_pick [2, 1, 0] (lo' := [(0, .ref a0), (1, .int (0 : Int32)), (2, .int (0 : Int32))]) rfl ?_
  refine l_X10_waitingAll_L4 hl hd (hk29 := ?_) fu _ _ h
  · intro x3 h
    refine r_iload_n (dc_X10_waitingAll 18 rfl) rfl rfl ?_
    cases h
    exact r_ireturn (dc_X10_waitingAll 19 rfl) rfl
theorem l_X10_firstOverstated_L26 {G : Gx} {d : Nat} (hl : G.1.stackTraces = false) (hd : 4 ≤ d) {sL : Sto} {pL0 : Nat} {xL1 : Int32} {xL2 : Int32} {r : Int32} {k64 : Option Int32}
    (hk64 : k64  = some r → J G d m_X10_firstOverstated 64 [(0, .ref pL0), (1, .int xL1), (2, .int xL2)] [] sL (.inl (some (.int r))) sL)
  : ∀ (f : Nat) (xL3 : Int32), F_X10_firstOverstated_L26 sL pL0 xL1 xL2 f xL3 k64 = some r → J G d m_X10_firstOverstated 26 [(0, .ref pL0), (1, .int xL1), (2, .int xL2), (3, .int xL3)] [] sL (.inl (some (.int r))) sL := by
  intro f
  induction f with
  | zero => intro xL3 h; rw [F_X10_firstOverstated_L26] at h; cases h
  | succ f ih =>
    intro xL3 h
    rw [F_X10_firstOverstated_L26] at h
    refine r_iload_n (dc_X10_firstOverstated 18 rfl) rfl rfl ?_
    refine r_aload_n (dc_X10_firstOverstated 19 rfl) rfl rfl ?_
    obtain ⟨p5, e0, h⟩ := Option.bind_eq_some_iff.mp h
    refine r_getR (dc_X10_firstOverstated 20 rfl) fl_RX10_14 e0 ?_
    refine r_iconst (dc_X10_firstOverstated 21 rfl) kiconst_0 ?_
    obtain ⟨x6, e0, h⟩ := Option.bind_eq_some_iff.mp h
    refine r_iald (dc_X10_firstOverstated 22 rfl) e0 ?_
    refine r_icmp_ge (dc_X10_firstOverstated 23 rfl) (tgt := 64) (by decide) (fun c0 => ?_) (fun c0 => ?_)
    · rw [if_pos c0] at h
      refine r_pick [0, 1, 2] (lo' := [(0, .ref pL0), (1, .int xL1), (2, .int xL2)]) rfl ?_
      exact hk64  h
    · rw [if_neg c0] at h
      refine r_aload_n (dc_X10_firstOverstated 24 rfl) rfl rfl ?_
      refine r_iload_n (dc_X10_firstOverstated 25 rfl) rfl rfl ?_
      refine r_iload_n (dc_X10_firstOverstated 26 rfl) rfl rfl ?_
      refine r_iload_n (dc_X10_firstOverstated 27 rfl) rfl rfl ?_
      obtain ⟨x7, e0, h⟩ := Option.bind_eq_some_iff.mp h
      refine r_callV (dc_X10_firstOverstated 28 rfl) mv_X10_isOverstated ml_RX10_275 (As := [.int xL1, .int xL2, .int xL3]) (t_X10_isOverstated (d := d - 1) hl (by omega) e0) (by omega) rfl (Nat.le_of_ble_eq_true rfl) ?_
      refine r_if_eq (dc_X10_firstOverstated 29 rfl) (tgt := 58) (by decide) (fun c0 => ?_) (fun c0 => ?_)
      · rw [if_pos c0] at h
        refine r_iinc (dc_X10_firstOverstated 40 rfl) rfl (kinc_1 _) (by decide) (lo' := [(3, .int (xL3 + (1 : Int32))), (0, .ref pL0), (1, .int xL1), (2, .int xL2)]) rfl ?_
        refine r_goto (dc_X10_firstOverstated 41 rfl) (tgt := 26) (by decide) ?_
        refine r_pick [1, 2, 3, 0] (lo' := [(0, .ref pL0), (1, .int xL1), (2, .int xL2), (3, .int (xL3 + (1 : Int32)))]) rfl ?_
        exact ih _ h
      · rw [if_neg c0] at h
        refine r_bipush (dc_X10_firstOverstated 30 rfl) kbipush_100 ?_
        refine r_iload_n (dc_X10_firstOverstated 31 rfl) rfl rfl ?_
        refine r_imul (dc_X10_firstOverstated 32 rfl) ?_
        refine r_bipush (dc_X10_firstOverstated 33 rfl) kbipush_10 ?_
        refine r_iload_n (dc_X10_firstOverstated 34 rfl) rfl rfl ?_
        refine r_imul (dc_X10_firstOverstated 35 rfl) ?_
        refine r_iadd (dc_X10_firstOverstated 36 rfl) ?_
        refine r_iload_n (dc_X10_firstOverstated 37 rfl) rfl rfl ?_
        refine r_iadd (dc_X10_firstOverstated 38 rfl) ?_
        cases h
        exact r_ireturn (dc_X10_firstOverstated 39 rfl) rfl
theorem l_X10_firstOverstated_L14 {G : Gx} {d : Nat} (hl : G.1.stackTraces = false) (hd : 4 ≤ d) {sL : Sto} {pL0 : Nat} {xL1 : Int32} {r : Int32} {k70 : Option Int32}
    (hk70 : k70  = some r → J G d m_X10_firstOverstated 70 [(0, .ref pL0), (1, .int xL1)] [] sL (.inl (some (.int r))) sL)
  : ∀ (f : Nat) (xL2 : Int32), F_X10_firstOverstated_L14 sL pL0 xL1 f xL2 k70 = some r → J G d m_X10_firstOverstated 14 [(0, .ref pL0), (1, .int xL1), (2, .int xL2)] [] sL (.inl (some (.int r))) sL := by
  intro f
  induction f with
  | zero => intro xL2 h; rw [F_X10_firstOverstated_L14] at h; cases h
  | succ f ih =>
    intro xL2 h
    rw [F_X10_firstOverstated_L14] at h
    refine r_iload_n (dc_X10_firstOverstated 10 rfl) rfl rfl ?_
    refine r_aload_n (dc_X10_firstOverstated 11 rfl) rfl rfl ?_
    obtain ⟨p3, e0, h⟩ := Option.bind_eq_some_iff.mp h
    refine r_getR (dc_X10_firstOverstated 12 rfl) fl_RX10_14 e0 ?_
    refine r_iconst (dc_X10_firstOverstated 13 rfl) kiconst_0 ?_
    obtain ⟨x4, e0, h⟩ := Option.bind_eq_some_iff.mp h
    refine r_iald (dc_X10_firstOverstated 14 rfl) e0 ?_
    refine r_icmp_ge (dc_X10_firstOverstated 15 rfl) (tgt := 70) (by decide) (fun c0 => ?_) (fun c0 => ?_)
    · rw [if_pos c0] at h
      refine r_pick [0, 1] (lo' := [(0, .ref pL0), (1, .int xL1)]) rfl ?_
      exact hk70  h
    · rw [if_neg c0] at h
      refine r_iconst (dc_X10_firstOverstated 16 rfl) kiconst_0 ?_
      refine r_istore_n (dc_X10_firstOverstated 17 rfl) rfl (by decide) (lo' := [(3, .int (0 : Int32)), (0, .ref pL0), (1, .int xL1), (2, .int xL2)]) rfl ?_
      refine r_pick [1, 2, 3, 0] (lo' := [(0, .ref pL0), (1, .int xL1), (2, .int xL2), (3, .int (0 : Int32))]) rfl ?_
      refine l_X10_firstOverstated_L26 hl hd (hk64 := ?_) fu _ h
      · intro h
        refine r_iinc (dc_X10_firstOverstated 42 rfl) rfl (kinc_1 _) (by decide) (lo' := [(2, .int (xL2 + (1 : Int32))), (0, .ref pL0), (1, .int xL1)]) rfl ?_
        refine r_goto (dc_X10_firstOverstated 43 rfl) (tgt := 14) (by decide) ?_
        refine r_pick [1, 2, 0] (lo' := [(0, .ref pL0), (1, .int xL1), (2, .int (xL2 + (1 : Int32)))]) rfl ?_
        exact ih _ h
